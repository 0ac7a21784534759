section
-- ===== PART A: goes FIRST, ahead of the names: the tables' words, and 'selects' of the private methods out of them =====
/-- a private method of a class that the tables say can be made, by its rows of tables_1 -/
def lw_okq (q : MethodName × Nat) : Prop := (q.1.cls ≠ "java/lang/invoke/MethodHandle" ∧ q.1.cls ≠ "java/lang/invoke/VarHandle") ∧ Cond.instantiable q.1.cls q.2 ∈ tables_1 ∧ Cond.privateMethod q.1 ∈ tables_1 ∧ Cond.instanceMethod q.1 ∈ tables_1
theorem lw_p0 : lw_okq (⟨"Striping$Schema", "mayHold", "(I)Z"⟩, 11) := ⟨⟨by decide +kernel, by decide +kernel⟩, List.mem_of_getElem? (i := 19) (by decide +kernel), List.mem_of_getElem? (i := 162) (by decide +kernel), List.mem_of_getElem? (i := 163) (by decide +kernel)⟩
theorem lw_p1 : lw_okq (⟨"Striping$Schema", "stretch", "(IJ)V"⟩, 11) := ⟨⟨by decide +kernel, by decide +kernel⟩, List.mem_of_getElem? (i := 19) (by decide +kernel), List.mem_of_getElem? (i := 186) (by decide +kernel), List.mem_of_getElem? (i := 187) (by decide +kernel)⟩
theorem lw_p2 : lw_okq (⟨"Striping", "mayCome", "(I)Z"⟩, 9) := ⟨⟨by decide +kernel, by decide +kernel⟩, List.mem_of_getElem? (i := 11) (by decide +kernel), List.mem_of_getElem? (i := 215) (by decide +kernel), List.mem_of_getElem? (i := 216) (by decide +kernel)⟩
theorem lw_p3 : lw_okq (⟨"Striping", "keepRecord", "()V"⟩, 9) := ⟨⟨by decide +kernel, by decide +kernel⟩, List.mem_of_getElem? (i := 11) (by decide +kernel), List.mem_of_getElem? (i := 288) (by decide +kernel), List.mem_of_getElem? (i := 289) (by decide +kernel)⟩
theorem lw_p4 : lw_okq (⟨"Striping", "takeFields", "(III)V"⟩, 9) := ⟨⟨by decide +kernel, by decide +kernel⟩, List.mem_of_getElem? (i := 11) (by decide +kernel), List.mem_of_getElem? (i := 292) (by decide +kernel), List.mem_of_getElem? (i := 293) (by decide +kernel)⟩
theorem lw_p5 : lw_okq (⟨"Striping", "takeField", "(III)V"⟩, 9) := ⟨⟨by decide +kernel, by decide +kernel⟩, List.mem_of_getElem? (i := 11) (by decide +kernel), List.mem_of_getElem? (i := 296) (by decide +kernel), List.mem_of_getElem? (i := 297) (by decide +kernel)⟩
theorem lw_p6 : lw_okq (⟨"Striping", "addEmptyEntries", "(II)V"⟩, 9) := ⟨⟨by decide +kernel, by decide +kernel⟩, List.mem_of_getElem? (i := 11) (by decide +kernel), List.mem_of_getElem? (i := 304) (by decide +kernel), List.mem_of_getElem? (i := 305) (by decide +kernel)⟩
theorem lw_p7 : lw_okq (⟨"Striping", "takeOccurrence", "(III)V"⟩, 9) := ⟨⟨by decide +kernel, by decide +kernel⟩, List.mem_of_getElem? (i := 11) (by decide +kernel), List.mem_of_getElem? (i := 325) (by decide +kernel), List.mem_of_getElem? (i := 326) (by decide +kernel)⟩
theorem lw_p8 : lw_okq (⟨"Striping", "seek", "(I)V"⟩, 9) := ⟨⟨by decide +kernel, by decide +kernel⟩, List.mem_of_getElem? (i := 11) (by decide +kernel), List.mem_of_getElem? (i := 378) (by decide +kernel), List.mem_of_getElem? (i := 379) (by decide +kernel)⟩
theorem lw_p9 : lw_okq (⟨"Striping", "putFields", "(II)V"⟩, 9) := ⟨⟨by decide +kernel, by decide +kernel⟩, List.mem_of_getElem? (i := 11) (by decide +kernel), List.mem_of_getElem? (i := 388) (by decide +kernel), List.mem_of_getElem? (i := 389) (by decide +kernel)⟩
theorem lw_p10 : lw_okq (⟨"Striping", "putField", "(II)V"⟩, 9) := ⟨⟨by decide +kernel, by decide +kernel⟩, List.mem_of_getElem? (i := 11) (by decide +kernel), List.mem_of_getElem? (i := 392) (by decide +kernel), List.mem_of_getElem? (i := 393) (by decide +kernel)⟩
theorem lw_p11 : lw_okq (⟨"Striping", "peek", "(II)I"⟩, 9) := ⟨⟨by decide +kernel, by decide +kernel⟩, List.mem_of_getElem? (i := 11) (by decide +kernel), List.mem_of_getElem? (i := 399) (by decide +kernel), List.mem_of_getElem? (i := 400) (by decide +kernel)⟩
theorem lw_p12 : lw_okq (⟨"Striping", "isCursor", "(I)Z"⟩, 9) := ⟨⟨by decide +kernel, by decide +kernel⟩, List.mem_of_getElem? (i := 11) (by decide +kernel), List.mem_of_getElem? (i := 403) (by decide +kernel), List.mem_of_getElem? (i := 404) (by decide +kernel)⟩
theorem lw_p13 : lw_okq (⟨"Striping", "passEmptyEntries", "(J)V"⟩, 9) := ⟨⟨by decide +kernel, by decide +kernel⟩, List.mem_of_getElem? (i := 11) (by decide +kernel), List.mem_of_getElem? (i := 407) (by decide +kernel), List.mem_of_getElem? (i := 408) (by decide +kernel)⟩
theorem lw_p14 : lw_okq (⟨"Striping", "pass", "(I)V"⟩, 9) := ⟨⟨by decide +kernel, by decide +kernel⟩, List.mem_of_getElem? (i := 11) (by decide +kernel), List.mem_of_getElem? (i := 411) (by decide +kernel), List.mem_of_getElem? (i := 412) (by decide +kernel)⟩
theorem lw_p15 : lw_okq (⟨"Striping", "putOccurrence", "(II)V"⟩, 9) := ⟨⟨by decide +kernel, by decide +kernel⟩, List.mem_of_getElem? (i := 11) (by decide +kernel), List.mem_of_getElem? (i := 415) (by decide +kernel), List.mem_of_getElem? (i := 416) (by decide +kernel)⟩
def lw_privs_1 : List (MethodName × Nat) := [(⟨"Striping$Schema", "mayHold", "(I)Z"⟩, 11), (⟨"Striping$Schema", "stretch", "(IJ)V"⟩, 11), (⟨"Striping", "mayCome", "(I)Z"⟩, 9), (⟨"Striping", "keepRecord", "()V"⟩, 9), (⟨"Striping", "takeFields", "(III)V"⟩, 9), (⟨"Striping", "takeField", "(III)V"⟩, 9), (⟨"Striping", "addEmptyEntries", "(II)V"⟩, 9), (⟨"Striping", "takeOccurrence", "(III)V"⟩, 9), (⟨"Striping", "seek", "(I)V"⟩, 9), (⟨"Striping", "putFields", "(II)V"⟩, 9), (⟨"Striping", "putField", "(II)V"⟩, 9), (⟨"Striping", "peek", "(II)I"⟩, 9), (⟨"Striping", "isCursor", "(I)Z"⟩, 9), (⟨"Striping", "passEmptyEntries", "(J)V"⟩, 9), (⟨"Striping", "pass", "(I)V"⟩, 9), (⟨"Striping", "putOccurrence", "(II)V"⟩, 9)]
theorem lw_r1 : ∀ q ∈ lw_privs_1, lw_okq q := List.forall_mem_cons.mpr ⟨lw_p0, List.forall_mem_cons.mpr ⟨lw_p1, List.forall_mem_cons.mpr ⟨lw_p2, List.forall_mem_cons.mpr ⟨lw_p3, List.forall_mem_cons.mpr ⟨lw_p4, List.forall_mem_cons.mpr ⟨lw_p5, List.forall_mem_cons.mpr ⟨lw_p6, List.forall_mem_cons.mpr ⟨lw_p7, List.forall_mem_cons.mpr ⟨lw_p8, List.forall_mem_cons.mpr ⟨lw_p9, List.forall_mem_cons.mpr ⟨lw_p10, List.forall_mem_cons.mpr ⟨lw_p11, List.forall_mem_cons.mpr ⟨lw_p12, List.forall_mem_cons.mpr ⟨lw_p13, List.forall_mem_cons.mpr ⟨lw_p14, List.forall_mem_cons.mpr ⟨lw_p15, fun _ h => absurd h List.not_mem_nil⟩⟩⟩⟩⟩⟩⟩⟩⟩⟩⟩⟩⟩⟩⟩⟩
theorem lw_p16 : lw_okq (⟨"Striping", "comesAgain", "(II)Z"⟩, 9) := ⟨⟨by decide +kernel, by decide +kernel⟩, List.mem_of_getElem? (i := 11) (by decide +kernel), List.mem_of_getElem? (i := 424) (by decide +kernel), List.mem_of_getElem? (i := 425) (by decide +kernel)⟩
theorem lw_p17 : lw_okq (⟨"StripingModel", "isAround", "(I)Z"⟩, 25) := ⟨⟨by decide +kernel, by decide +kernel⟩, List.mem_of_getElem? (i := 436) (by decide +kernel), List.mem_of_getElem? (i := 523) (by decide +kernel), List.mem_of_getElem? (i := 524) (by decide +kernel)⟩
theorem lw_p18 : lw_okq (⟨"StripingModel", "columns", "()I"⟩, 25) := ⟨⟨by decide +kernel, by decide +kernel⟩, List.mem_of_getElem? (i := 436) (by decide +kernel), List.mem_of_getElem? (i := 531) (by decide +kernel), List.mem_of_getElem? (i := 532) (by decide +kernel)⟩
theorem lw_p19 : lw_okq (⟨"StripingModel", "isField", "(I)Z"⟩, 25) := ⟨⟨by decide +kernel, by decide +kernel⟩, List.mem_of_getElem? (i := 436) (by decide +kernel), List.mem_of_getElem? (i := 539) (by decide +kernel), List.mem_of_getElem? (i := 540) (by decide +kernel)⟩
theorem lw_p20 : lw_okq (⟨"StripingModel", "count", "(II)I"⟩, 25) := ⟨⟨by decide +kernel, by decide +kernel⟩, List.mem_of_getElem? (i := 436) (by decide +kernel), List.mem_of_getElem? (i := 543) (by decide +kernel), List.mem_of_getElem? (i := 544) (by decide +kernel)⟩
theorem lw_p21 : lw_okq (⟨"StripingModel", "columnOf", "(I)I"⟩, 25) := ⟨⟨by decide +kernel, by decide +kernel⟩, List.mem_of_getElem? (i := 436) (by decide +kernel), List.mem_of_getElem? (i := 547) (by decide +kernel), List.mem_of_getElem? (i := 548) (by decide +kernel)⟩
theorem lw_p22 : lw_okq (⟨"StripingModel", "comes", "(IIZ)Z"⟩, 25) := ⟨⟨by decide +kernel, by decide +kernel⟩, List.mem_of_getElem? (i := 436) (by decide +kernel), List.mem_of_getElem? (i := 559) (by decide +kernel), List.mem_of_getElem? (i := 560) (by decide +kernel)⟩
theorem lw_p23 : lw_okq (⟨"StripingModel", "has", "(I)I"⟩, 25) := ⟨⟨by decide +kernel, by decide +kernel⟩, List.mem_of_getElem? (i := 436) (by decide +kernel), List.mem_of_getElem? (i := 563) (by decide +kernel), List.mem_of_getElem? (i := 564) (by decide +kernel)⟩
theorem lw_p24 : lw_okq (⟨"StripingModel", "goesTo", "(I)Z"⟩, 25) := ⟨⟨by decide +kernel, by decide +kernel⟩, List.mem_of_getElem? (i := 436) (by decide +kernel), List.mem_of_getElem? (i := 587) (by decide +kernel), List.mem_of_getElem? (i := 588) (by decide +kernel)⟩
theorem lw_p25 : lw_okq (⟨"StripingModel", "finds", "(I)Z"⟩, 25) := ⟨⟨by decide +kernel, by decide +kernel⟩, List.mem_of_getElem? (i := 436) (by decide +kernel), List.mem_of_getElem? (i := 591) (by decide +kernel), List.mem_of_getElem? (i := 592) (by decide +kernel)⟩
theorem lw_p26 : lw_okq (⟨"StripingModel", "next", "(III)I"⟩, 25) := ⟨⟨by decide +kernel, by decide +kernel⟩, List.mem_of_getElem? (i := 436) (by decide +kernel), List.mem_of_getElem? (i := 595) (by decide +kernel), List.mem_of_getElem? (i := 596) (by decide +kernel)⟩
theorem lw_p27 : lw_okq (⟨"StripingModel", "deeper", "(II)I"⟩, 25) := ⟨⟨by decide +kernel, by decide +kernel⟩, List.mem_of_getElem? (i := 436) (by decide +kernel), List.mem_of_getElem? (i := 599) (by decide +kernel), List.mem_of_getElem? (i := 600) (by decide +kernel)⟩
theorem lw_p28 : lw_okq (⟨"StripingModel", "wants", "(II)V"⟩, 25) := ⟨⟨by decide +kernel, by decide +kernel⟩, List.mem_of_getElem? (i := 436) (by decide +kernel), List.mem_of_getElem? (i := 611) (by decide +kernel), List.mem_of_getElem? (i := 612) (by decide +kernel)⟩
theorem lw_p29 : lw_okq (⟨"StripingModel", "tells", "(II)V"⟩, 25) := ⟨⟨by decide +kernel, by decide +kernel⟩, List.mem_of_getElem? (i := 436) (by decide +kernel), List.mem_of_getElem? (i := 615) (by decide +kernel), List.mem_of_getElem? (i := 616) (by decide +kernel)⟩
def lw_privs_2 : List (MethodName × Nat) := [(⟨"Striping", "comesAgain", "(II)Z"⟩, 9), (⟨"StripingModel", "isAround", "(I)Z"⟩, 25), (⟨"StripingModel", "columns", "()I"⟩, 25), (⟨"StripingModel", "isField", "(I)Z"⟩, 25), (⟨"StripingModel", "count", "(II)I"⟩, 25), (⟨"StripingModel", "columnOf", "(I)I"⟩, 25), (⟨"StripingModel", "comes", "(IIZ)Z"⟩, 25), (⟨"StripingModel", "has", "(I)I"⟩, 25), (⟨"StripingModel", "goesTo", "(I)Z"⟩, 25), (⟨"StripingModel", "finds", "(I)Z"⟩, 25), (⟨"StripingModel", "next", "(III)I"⟩, 25), (⟨"StripingModel", "deeper", "(II)I"⟩, 25), (⟨"StripingModel", "wants", "(II)V"⟩, 25), (⟨"StripingModel", "tells", "(II)V"⟩, 25)]
theorem lw_r2 : ∀ q ∈ lw_privs_2, lw_okq q := List.forall_mem_cons.mpr ⟨lw_p16, List.forall_mem_cons.mpr ⟨lw_p17, List.forall_mem_cons.mpr ⟨lw_p18, List.forall_mem_cons.mpr ⟨lw_p19, List.forall_mem_cons.mpr ⟨lw_p20, List.forall_mem_cons.mpr ⟨lw_p21, List.forall_mem_cons.mpr ⟨lw_p22, List.forall_mem_cons.mpr ⟨lw_p23, List.forall_mem_cons.mpr ⟨lw_p24, List.forall_mem_cons.mpr ⟨lw_p25, List.forall_mem_cons.mpr ⟨lw_p26, List.forall_mem_cons.mpr ⟨lw_p27, List.forall_mem_cons.mpr ⟨lw_p28, List.forall_mem_cons.mpr ⟨lw_p29, fun _ h => absurd h List.not_mem_nil⟩⟩⟩⟩⟩⟩⟩⟩⟩⟩⟩⟩⟩⟩
def lw_privs : List (MethodName × Nat) := lw_privs_1 ++ (lw_privs_2)
def lw_tbl : List Cond := k2_sels lw_privs ++ tables_1
theorem lw_privs_ok : ∀ q ∈ lw_privs, lw_okq q := by
  show ∀ q ∈ lw_privs_1 ++ (lw_privs_2), lw_okq q
  exact List.forall_mem_append.mpr ⟨lw_r1, lw_r2⟩
end
section
/-! A SMALL MACHINE over cells by address. This part: its words.
ri_E: a cell (an array with its component's type, or an object: class number and fields). ri_S: the cells, the next free address, how many slots were made so far.
ri_I: an instruction of a method: where it stands, the instruction, the next place, the place it jumps to, the number it pushes or adds.
ri_M: a method: class number, name, bytes, locals, return type, instructions. -/
abbrev ri_E : Type := (FieldType × vp_A) ⊕ (Nat × List Value)
abbrev ri_S : Type := (Nat → Option ri_E) × Nat × Nat
abbrev ri_I : Type := Nat × Instr × Nat × Nat × Int32
abbrev ri_M : Type := Nat × MethodName × ByteArray × Nat × Option FieldType × List ri_I
abbrev ri_F : Type := Nat × List (Option Value) × List Value
def ri_find (pc : Nat) : List ri_I → Option (Instr × Nat × Nat × Int32)
  | [] => none
  | x :: r => match Nat.beq x.1 pc with
    | true => some x.2
    | false => ri_find pc r
theorem ri_find_mem {pc : Nat} {x : Instr × Nat × Nat × Int32} : ∀ {l : List ri_I}, ri_find pc l = some x → (pc, x) ∈ l
  | [], h => by cases h
  | y :: r, h => by
    unfold ri_find at h
    split at h
    · rename_i hb
      have e : y.1 = pc := Nat.eq_of_beq_eq_true hb
      cases h
      rw [← e]
      exact List.mem_cons_self
    · exact List.mem_cons_of_mem _ (ri_find_mem h)
/-- what a row of a method's list must be, beside its decoding -/
def ri_sp (x : ri_I) : Bool := match x with
  | (pc, i, np, tg, kv) => match i with
    | .iconst k => np == pc + 1 && Int32.ofInt k == kv
    | .bipush k => np == pc + 2 && (Int8.ofInt k).toInt32 == kv
    | .sipush k => np == pc + 3 && (Int16.ofInt k).toInt32 == kv
    | .iinc _ k => np == pc + 3 && Int32.ofInt k == kv
    | .ifCond _ off => np == pc + 3 && (pc : Int) + off == (tg : Int)
    | .if_icmp _ off => np == pc + 3 && (pc : Int) + off == (tg : Int)
    | .if_acmp _ off => np == pc + 3 && (pc : Int) + off == (tg : Int)
    | .ifnull off => np == pc + 3 && (pc : Int) + off == (tg : Int)
    | .ifnonnull off => np == pc + 3 && (pc : Int) + off == (tg : Int)
    | .goto off => np == pc + 3 && (pc : Int) + off == (tg : Int)
    | .iload _ | .lload _ | .aload _ | .istore _ | .lstore _ | .astore _ | .ldc _ | .newarray _ => np == pc + 2
    | .checkcast _ | .ldc2_w _ | .getfield _ | .putfield _ | .new _ | .anewarray _ | .invokevirtual _ | .invokespecial _ | .invokestatic _ => np == pc + 3
    | .multianewarray _ _ => np == pc + 4
    | .tableswitch d _ _ _ => (pc : Int) + d == (tg : Int) && kv.toInt == (pc : Int)
    | .lookupswitch _ _ => true
    | _ => np == pc + 1
def ri_ck (b : ByteArray) (x : ri_I) : Prop := decode b x.1 = .ok (x.2.1, x.2.2.1 - x.1) ∧ ri_sp x = true
def ri_get (L : List (Option Value)) (i : Nat) : Option Value := match L[i]? with
  | some x => x
  | none => none
def ri_two (L : List (Option Value)) (i : Nat) : Bool := match ri_get L i with
  | some v => v.category == 2
  | none => false
/-- the locals with v at i: a long whose second half lay there is gone; a long takes two -/
def ri_put (L : List (Option Value)) (i : Nat) (v : Value) : List (Option Value) := match i with
  | 0 => bif v.category == 2 then (L.set 0 (some v)).set 1 none else L.set 0 (some v)
  | j + 1 => bif v.category == 2 then (((bif ri_two L j then L.set j none else L).set (j + 1) (some v)).set (j + 2) none) else ((bif ri_two L j then L.set j none else L).set (j + 1) (some v))
def ri_ent : List Value → List (Option Value)
  | [] => []
  | v :: r => bif v.category == 2 then some v :: none :: ri_ent r else some v :: ri_ent r
/-- a method's locals at its entry -/
def ri_loc (n : Nat) (vs : List Value) : List (Option Value) := ri_ent vs ++ List.replicate (n - (ri_ent vs).length) none
def ri_up (h : Nat → Option ri_E) (a : Nat) (e : ri_E) : Nat → Option ri_E := fun q => if q = a then some e else h q
end
section
/-! WORDS AND TABLES OF THIS COMMIT'S CODE (written by a program, gen03.py, out of the task's claim/): classes, fields, what pool numbers mean, the methods' instructions. -/
/-- the words that every method has, and those that are carried beside them -/
def rt_tbl : List Cond := lw_tbl.filter goodWord
def rt_isN : Cond → Bool
  | .fieldLinkNest _ _ _ _ _ _ => true
  | .methodLinkNest _ _ _ _ => true
  | _ => false
def rt_sd : List Cond := lw_tbl.filter rt_isN
theorem rt_in {w : Cond} (i : Nat) (h : lw_tbl[i]? = some w) (hg : goodWord w = true) : w ∈ rt_tbl := List.mem_filter.mpr ⟨List.mem_of_getElem? h, hg⟩
theorem rt_inN {w : Cond} (i : Nat) (h : lw_tbl[i]? = some w) (hg : rt_isN w = true) : w ∈ rt_sd := List.mem_filter.mpr ⟨List.mem_of_getElem? h, hg⟩
theorem rt_good (w : Cond) (h : w ∈ rt_tbl) : (w.onTables && w.keeps) = true ∨ ∃ ty, w = .arrayClass ty := good_of_word (List.mem_filter.mp h).2
theorem rt_sd_ok (w : Cond) (h : w ∈ rt_sd) : w.onTables = true ∧ ∀ (u U : State), u.WarmedH U.vm → va_Nw w u → va_Nw w U := by
  have hn := (List.mem_filter.mp h).2
  cases w <;> first | (cases hn; done) | exact ⟨rfl, fun u U hW hZ => va_Nw.warmF hW hZ⟩ | exact ⟨rfl, fun u U hW hZ => va_Nw.warmM hW hZ⟩
def rt_ty : List FieldType := [.int, .long, .array .int, .boolean]
theorem rt_ty_int_in : FieldType.int ∈ rt_ty := by decide
theorem rt_ty_long_in : FieldType.long ∈ rt_ty := by decide
theorem rt_ty_arr : FieldType.array .int ∈ rt_ty := by decide
theorem rt_ty_bool_in : FieldType.boolean ∈ rt_ty := by decide
set_option maxRecDepth 100000 in
theorem rt_arr_int : Cond.arrayClass .int ∈ rt_tbl := rt_in 90 rfl rfl
set_option maxRecDepth 100000 in
theorem rt_arr_long : Cond.arrayClass .long ∈ rt_tbl := rt_in 91 rfl rfl
set_option maxRecDepth 100000 in
theorem rt_arr_bool : Cond.arrayClass .boolean ∈ rt_tbl := rt_in 547 rfl rfl
def rt_cn : Nat → String
  | 0 => "Striping$Columns"
  | 1 => "Striping$Draft"
  | 2 => "Striping$Events"
  | 3 => "Striping$Schema"
  | 4 => "Striping"
  | 5 => "StripingModel"
  | 6 => "StripingLaw"
  | 7 => "java/util/Arrays"
  | 8 => "java/lang/Math"
  | 9 => "java/lang/System"
  | _ => ""
def rt_T0 : u_T := fun k => match k with
  | 0 => ("Striping$Columns", "sizes", "[I", true)
  | _ => ("Striping$Columns", "rows", "[[I", true)
def rt_y0 : Nat → FieldType := fun k => match k with
  | 0 => .array .int
  | _ => .array (.array .int)
def rt_T1 : u_T := fun k => match k with
  | 0 => ("Striping$Draft", "openGroups", "[I", true)
  | 1 => ("Striping$Draft", "newestFields", "[I", true)
  | 2 => ("Striping$Draft", "fields", "[I", false)
  | 3 => ("Striping$Draft", "values", "[I", false)
  | 4 => ("Striping$Draft", "size", "I", false)
  | 5 => ("Striping$Draft", "depth", "I", false)
  | _ => ("Striping$Draft", "begun", "Z", false)
def rt_y1 : Nat → FieldType := fun k => match k with
  | 0 => .array .int
  | 1 => .array .int
  | 2 => .array .int
  | 3 => .array .int
  | 4 => .int
  | 5 => .int
  | _ => .boolean
def rt_T2 : u_T := fun k => match k with
  | 0 => ("Striping$Events", "row", "[I", false)
  | _ => ("Striping$Events", "size", "I", false)
def rt_y2 : Nat → FieldType := fun k => match k with
  | 0 => .array .int
  | _ => .int
def rt_T3 : u_T := fun k => match k with
  | 0 => ("Striping$Schema", "parents", "[I", true)
  | 1 => ("Striping$Schema", "kinds", "[I", true)
  | 2 => ("Striping$Schema", "depths", "[I", true)
  | 3 => ("Striping$Schema", "repetitions", "[I", true)
  | 4 => ("Striping$Schema", "definitions", "[I", true)
  | 5 => ("Striping$Schema", "columnNumbers", "[I", true)
  | 6 => ("Striping$Schema", "ends", "[I", true)
  | 7 => ("Striping$Schema", "columnSets", "[J", true)
  | 8 => ("Striping$Schema", "size", "I", false)
  | 9 => ("Striping$Schema", "leaves", "I", false)
  | _ => ("Striping$Schema", "settled", "Z", false)
def rt_y3 : Nat → FieldType := fun k => match k with
  | 0 => .array .int
  | 1 => .array .int
  | 2 => .array .int
  | 3 => .array .int
  | 4 => .array .int
  | 5 => .array .int
  | 6 => .array .int
  | 7 => .array .long
  | 8 => .int
  | 9 => .int
  | _ => .boolean
def rt_T4 : u_T := fun k => match k with
  | 0 => ("Striping", "schema", "LStriping$Schema;", true)
  | 1 => ("Striping", "draft", "LStriping$Draft;", true)
  | 2 => ("Striping", "events", "LStriping$Events;", true)
  | 3 => ("Striping", "cursors", "[I", true)
  | 4 => ("Striping", "columns", "LStriping$Columns;", false)
  | 5 => ("Striping", "closedRecords", "I", false)
  | 6 => ("Striping", "closedOccurrences", "I", false)
  | 7 => ("Striping", "taken", "I", false)
  | _ => ("Striping", "chosen", "J", false)
def rt_y4 : Nat → FieldType := fun k => match k with
  | 0 => .object "Striping$Schema"
  | 1 => .object "Striping$Draft"
  | 2 => .object "Striping$Events"
  | 3 => .array .int
  | 4 => .object "Striping$Columns"
  | 5 => .int
  | 6 => .int
  | 7 => .int
  | _ => .long
def rt_T5 : u_T := fun k => match k with
  | 0 => ("StripingModel", "parents", "[I", true)
  | 1 => ("StripingModel", "kinds", "[I", true)
  | 2 => ("StripingModel", "depths", "[I", true)
  | 3 => ("StripingModel", "groups", "[Z", true)
  | 4 => ("StripingModel", "fields", "I", false)
  | 5 => ("StripingModel", "ready", "Z", false)
  | 6 => ("StripingModel", "of", "[I", true)
  | 7 => ("StripingModel", "values", "[I", true)
  | 8 => ("StripingModel", "around", "[I", true)
  | 9 => ("StripingModel", "many", "I", false)
  | 10 => ("StripingModel", "begins", "[I", true)
  | 11 => ("StripingModel", "records", "I", false)
  | 12 => ("StripingModel", "isOpen", "Z", false)
  | 13 => ("StripingModel", "inside", "I", false)
  | 14 => ("StripingModel", "way", "[I", true)
  | 15 => ("StripingModel", "at", "[I", true)
  | 16 => ("StripingModel", "steps", "I", false)
  | 17 => ("StripingModel", "repetition", "I", false)
  | 18 => ("StripingModel", "definition", "I", false)
  | 19 => ("StripingModel", "value", "I", false)
  | 20 => ("StripingModel", "wanted", "[Z", true)
  | 21 => ("StripingModel", "events", "[I", true)
  | 22 => ("StripingModel", "told", "[I", true)
  | 23 => ("StripingModel", "eventful", "I", false)
  | _ => ("StripingModel", "found", "I", false)
def rt_y5 : Nat → FieldType := fun k => match k with
  | 0 => .array .int
  | 1 => .array .int
  | 2 => .array .int
  | 3 => .array .boolean
  | 4 => .int
  | 5 => .boolean
  | 6 => .array .int
  | 7 => .array .int
  | 8 => .array .int
  | 9 => .int
  | 10 => .array .int
  | 11 => .int
  | 12 => .boolean
  | 13 => .int
  | 14 => .array .int
  | 15 => .array .int
  | 16 => .int
  | 17 => .int
  | 18 => .int
  | 19 => .int
  | 20 => .array .boolean
  | 21 => .array .int
  | 22 => .array .int
  | 23 => .int
  | _ => .int
def vwCl : List vw_C := [("Striping$Columns", rt_T0, 2), ("Striping$Draft", rt_T1, 7), ("Striping$Events", rt_T2, 2), ("Striping$Schema", rt_T3, 11), ("Striping", rt_T4, 9), ("StripingModel", rt_T5, 25)]
def rt_kP (C : String) (T : u_T) (N : Nat) : Prop := (∀ w ∈ u_ws C T N, w ∈ rt_tbl) ∧ (∃ ty0 : Nat → FieldType, ∀ k, k < N → parseFieldDescriptor (T k).2.2.1 = some (ty0 k)) ∧ (∀ a, a < N → ∀ b, b < N → a ≠ b → (T a).2.1 ≠ (T b).2.1)
set_option maxRecDepth 100000 in
theorem rt_k0 : rt_kP "Striping$Columns" rt_T0 2 := by
  refine ⟨?_, ⟨rt_y0, by decide +kernel⟩, by decide +kernel⟩
  intro w hw
  obtain ⟨k, hk, rfl⟩ := List.mem_map.mp hw
  have hk := List.mem_range.mp hk
  match k, hk with
  | 0, _ => exact rt_in 150 rfl rfl
  | 1, _ => exact rt_in 152 rfl rfl
  | k + 2, hk => exact absurd hk (by omega)
set_option maxRecDepth 100000 in
theorem rt_k1 : rt_kP "Striping$Draft" rt_T1 7 := by
  refine ⟨?_, ⟨rt_y1, by decide +kernel⟩, by decide +kernel⟩
  intro w hw
  obtain ⟨k, hk, rfl⟩ := List.mem_map.mp hw
  have hk := List.mem_range.mp hk
  match k, hk with
  | 0, _ => exact rt_in 108 rfl rfl
  | 1, _ => exact rt_in 110 rfl rfl
  | 2, _ => exact rt_in 112 rfl rfl
  | 3, _ => exact rt_in 114 rfl rfl
  | 4, _ => exact rt_in 116 rfl rfl
  | 5, _ => exact rt_in 118 rfl rfl
  | 6, _ => exact rt_in 120 rfl rfl
  | k + 7, hk => exact absurd hk (by omega)
set_option maxRecDepth 100000 in
theorem rt_k2 : rt_kP "Striping$Events" rt_T2 2 := by
  refine ⟨?_, ⟨rt_y2, by decide +kernel⟩, by decide +kernel⟩
  intro w hw
  obtain ⟨k, hk, rfl⟩ := List.mem_map.mp hw
  have hk := List.mem_range.mp hk
  match k, hk with
  | 0, _ => exact rt_in 132 rfl rfl
  | 1, _ => exact rt_in 134 rfl rfl
  | k + 2, hk => exact absurd hk (by omega)
set_option maxRecDepth 100000 in
theorem rt_k3 : rt_kP "Striping$Schema" rt_T3 11 := by
  refine ⟨?_, ⟨rt_y3, by decide +kernel⟩, by decide +kernel⟩
  intro w hw
  obtain ⟨k, hk, rfl⟩ := List.mem_map.mp hw
  have hk := List.mem_range.mp hk
  match k, hk with
  | 0, _ => exact rt_in 67 rfl rfl
  | 1, _ => exact rt_in 69 rfl rfl
  | 2, _ => exact rt_in 71 rfl rfl
  | 3, _ => exact rt_in 73 rfl rfl
  | 4, _ => exact rt_in 75 rfl rfl
  | 5, _ => exact rt_in 77 rfl rfl
  | 6, _ => exact rt_in 79 rfl rfl
  | 7, _ => exact rt_in 81 rfl rfl
  | 8, _ => exact rt_in 83 rfl rfl
  | 9, _ => exact rt_in 85 rfl rfl
  | 10, _ => exact rt_in 87 rfl rfl
  | k + 11, hk => exact absurd hk (by omega)
set_option maxRecDepth 100000 in
theorem rt_k4 : rt_kP "Striping" rt_T4 9 := by
  refine ⟨?_, ⟨rt_y4, by decide +kernel⟩, by decide +kernel⟩
  intro w hw
  obtain ⟨k, hk, rfl⟩ := List.mem_map.mp hw
  have hk := List.mem_range.mp hk
  match k, hk with
  | 0, _ => exact rt_in 164 rfl rfl
  | 1, _ => exact rt_in 166 rfl rfl
  | 2, _ => exact rt_in 168 rfl rfl
  | 3, _ => exact rt_in 170 rfl rfl
  | 4, _ => exact rt_in 172 rfl rfl
  | 5, _ => exact rt_in 174 rfl rfl
  | 6, _ => exact rt_in 176 rfl rfl
  | 7, _ => exact rt_in 178 rfl rfl
  | 8, _ => exact rt_in 180 rfl rfl
  | k + 9, hk => exact absurd hk (by omega)
set_option maxRecDepth 100000 in
theorem rt_k5 : rt_kP "StripingModel" rt_T5 25 := by
  refine ⟨?_, ⟨rt_y5, by decide +kernel⟩, by decide +kernel⟩
  intro w hw
  obtain ⟨k, hk, rfl⟩ := List.mem_map.mp hw
  have hk := List.mem_range.mp hk
  match k, hk with
  | 0, _ => exact rt_in 496 rfl rfl
  | 1, _ => exact rt_in 498 rfl rfl
  | 2, _ => exact rt_in 500 rfl rfl
  | 3, _ => exact rt_in 502 rfl rfl
  | 4, _ => exact rt_in 504 rfl rfl
  | 5, _ => exact rt_in 506 rfl rfl
  | 6, _ => exact rt_in 508 rfl rfl
  | 7, _ => exact rt_in 510 rfl rfl
  | 8, _ => exact rt_in 512 rfl rfl
  | 9, _ => exact rt_in 514 rfl rfl
  | 10, _ => exact rt_in 516 rfl rfl
  | 11, _ => exact rt_in 518 rfl rfl
  | 12, _ => exact rt_in 520 rfl rfl
  | 13, _ => exact rt_in 522 rfl rfl
  | 14, _ => exact rt_in 524 rfl rfl
  | 15, _ => exact rt_in 526 rfl rfl
  | 16, _ => exact rt_in 528 rfl rfl
  | 17, _ => exact rt_in 530 rfl rfl
  | 18, _ => exact rt_in 532 rfl rfl
  | 19, _ => exact rt_in 534 rfl rfl
  | 20, _ => exact rt_in 536 rfl rfl
  | 21, _ => exact rt_in 538 rfl rfl
  | 22, _ => exact rt_in 540 rfl rfl
  | 23, _ => exact rt_in 542 rfl rfl
  | 24, _ => exact rt_in 544 rfl rfl
  | k + 25, hk => exact absurd hk (by omega)
set_option maxRecDepth 100000 in
theorem rt_k_ok {cj : Nat} {C : String} {T : u_T} {N : Nat} (h : vwCl[cj]? = some (C, T, N)) : rt_kP C T N := by
  match cj, h with
  | 0, h => cases h; exact rt_k0
  | 1, h => cases h; exact rt_k1
  | 2, h => cases h; exact rt_k2
  | 3, h => cases h; exact rt_k3
  | 4, h => cases h; exact rt_k4
  | 5, h => cases h; exact rt_k5
  | k + 6, h => cases h
def rt_lk {α : Type} (a b : Nat) : List (Nat × Nat × α) → Option α
  | [] => none
  | x :: r => match Nat.beq x.1 a with
    | true => match Nat.beq x.2.1 b with
      | true => some x.2.2
      | false => rt_lk a b r
    | false => rt_lk a b r
theorem rt_lk_mem {α : Type} {a b : Nat} {y : α} : ∀ {l : List (Nat × Nat × α)}, rt_lk a b l = some y → (a, b, y) ∈ l
  | [], h => by cases h
  | x :: r, h => by
    unfold rt_lk at h
    split at h
    · rename_i h1
      split at h
      · rename_i h2
        cases h
        rw [← Nat.eq_of_beq_eq_true h1, ← Nat.eq_of_beq_eq_true h2]
        exact List.mem_cons_self
      · exact List.mem_cons_of_mem _ (rt_lk_mem h)
    · exact List.mem_cons_of_mem _ (rt_lk_mem h)
def rt_fL : List (Nat × Nat × Nat × Nat × FieldType × Nat) := [(4, 10, 4, 0, .object "Striping$Schema", 1), (4, 19, 4, 1, .object "Striping$Draft", 1), (4, 26, 4, 2, .object "Striping$Events", 1), (4, 30, 4, 3, .array .int, 1), (4, 39, 4, 4, .object "Striping$Columns", 0), (4, 51, 3, 9, .int, 0), (4, 55, 3, 10, .boolean, 0), (4, 59, 1, 6, .boolean, 0), (4, 62, 4, 5, .int, 0), (4, 99, 1, 5, .int, 0), (4, 135, 4, 8, .long, 0), (4, 145, 2, 1, .int, 0), (4, 154, 4, 6, .int, 0), (4, 157, 1, 4, .int, 0), (4, 161, 4, 7, .int, 0), (0, 15, 0, 0, .array .int, 1), (0, 23, 0, 1, .array (.array .int), 1), (1, 9, 1, 0, .array .int, 1), (1, 15, 1, 1, .array .int, 1), (1, 18, 1, 2, .array .int, 0), (1, 21, 1, 3, .array .int, 0), (1, 27, 1, 6, .boolean, 0), (1, 31, 1, 4, .int, 0), (1, 35, 1, 5, .int, 0), (2, 11, 2, 0, .array .int, 0), (2, 15, 2, 1, .int, 0), (3, 9, 3, 0, .array .int, 1), (3, 15, 3, 1, .array .int, 1), (3, 18, 3, 2, .array .int, 1), (3, 21, 3, 3, .array .int, 1), (3, 24, 3, 4, .array .int, 1), (3, 27, 3, 5, .array .int, 1), (3, 30, 3, 6, .array .int, 1), (3, 33, 3, 7, .array .long, 1), (3, 37, 3, 10, .boolean, 0), (3, 41, 3, 8, .int, 0), (3, 59, 3, 9, .int, 0), (5, 7, 5, 0, .array .int, 1), (5, 13, 5, 1, .array .int, 1), (5, 16, 5, 2, .array .int, 1), (5, 19, 5, 3, .array .boolean, 1), (5, 23, 5, 6, .array .int, 1), (5, 26, 5, 7, .array .int, 1), (5, 29, 5, 8, .array .int, 1), (5, 32, 5, 10, .array .int, 1), (5, 35, 5, 13, .int, 0), (5, 39, 5, 14, .array .int, 1), (5, 42, 5, 15, .array .int, 1), (5, 45, 5, 20, .array .boolean, 1), (5, 48, 5, 21, .array .int, 1), (5, 51, 5, 22, .array .int, 1), (5, 54, 5, 4, .int, 0), (5, 57, 5, 5, .boolean, 0), (5, 80, 5, 12, .boolean, 0), (5, 83, 5, 11, .int, 0), (5, 86, 5, 9, .int, 0), (5, 96, 5, 16, .int, 0), (5, 103, 5, 24, .int, 0), (5, 109, 5, 17, .int, 0), (5, 112, 5, 18, .int, 0), (5, 115, 5, 19, .int, 0), (5, 124, 5, 23, .int, 0)]
def rt_f (ci k : Nat) : Option (Nat × Nat × FieldType × Nat) := rt_lk ci k rt_fL
def rt_fP (x : Nat × Nat × Nat × Nat × FieldType × Nat) : Prop := match x with
  | (ci, k, cj, j, ty, fl) => ∃ (C : String) (T : u_T) (N : Nat), vwCl[cj]? = some (C, T, N) ∧ j < N ∧ parseFieldDescriptor (T j).2.2.1 = some ty ∧ ((fl = 0 → (T j).2.2.2 = false) ∧ (fl ≠ 0 → (T j).2.2.2 = true)) ∧ ((Cond.fieldLink (rt_cn ci) k (T j).1 (T j).2.1 (T j).2.2.1 ∈ rt_tbl ∧ (fl = 1 → (T j).1 = rt_cn ci)) ∨ (fl ≠ 1 ∧ ∃ host, Cond.fieldLinkNest (rt_cn ci) k (T j).1 (T j).2.1 (T j).2.2.1 host ∈ rt_sd))
set_option maxRecDepth 100000 in
theorem rt_f_0 : rt_fP (4, 10, 4, 0, .object "Striping$Schema", 1) := ⟨_, rt_T4, 9, rfl, by decide, by decide +kernel, ⟨fun h => absurd h (by decide), fun _ => rfl⟩, Or.inl ⟨rt_in 155 rfl rfl, fun _ => rfl⟩⟩
set_option maxRecDepth 100000 in
theorem rt_f_1 : rt_fP (4, 19, 4, 1, .object "Striping$Draft", 1) := ⟨_, rt_T4, 9, rfl, by decide, by decide +kernel, ⟨fun h => absurd h (by decide), fun _ => rfl⟩, Or.inl ⟨rt_in 156 rfl rfl, fun _ => rfl⟩⟩
set_option maxRecDepth 100000 in
theorem rt_f_2 : rt_fP (4, 26, 4, 2, .object "Striping$Events", 1) := ⟨_, rt_T4, 9, rfl, by decide, by decide +kernel, ⟨fun h => absurd h (by decide), fun _ => rfl⟩, Or.inl ⟨rt_in 157 rfl rfl, fun _ => rfl⟩⟩
set_option maxRecDepth 100000 in
theorem rt_f_3 : rt_fP (4, 30, 4, 3, .array .int, 1) := ⟨_, rt_T4, 9, rfl, by decide, by decide +kernel, ⟨fun h => absurd h (by decide), fun _ => rfl⟩, Or.inl ⟨rt_in 158 rfl rfl, fun _ => rfl⟩⟩
set_option maxRecDepth 100000 in
theorem rt_f_4 : rt_fP (4, 39, 4, 4, .object "Striping$Columns", 0) := ⟨_, rt_T4, 9, rfl, by decide, by decide +kernel, ⟨fun _ => rfl, fun h => absurd rfl h⟩, Or.inl ⟨rt_in 159 rfl rfl, fun h => absurd h (by decide)⟩⟩
set_option maxRecDepth 100000 in
theorem rt_f_5 : rt_fP (4, 51, 3, 9, .int, 0) := ⟨_, rt_T3, 11, rfl, by decide, by decide +kernel, ⟨fun _ => rfl, fun h => absurd rfl h⟩, Or.inr ⟨by decide, "Striping", rt_inN 64 rfl rfl⟩⟩
set_option maxRecDepth 100000 in
theorem rt_f_6 : rt_fP (4, 55, 3, 10, .boolean, 0) := ⟨_, rt_T3, 11, rfl, by decide, by decide +kernel, ⟨fun _ => rfl, fun h => absurd rfl h⟩, Or.inr ⟨by decide, "Striping", rt_inN 66 rfl rfl⟩⟩
set_option maxRecDepth 100000 in
theorem rt_f_7 : rt_fP (4, 59, 1, 6, .boolean, 0) := ⟨_, rt_T1, 7, rfl, by decide, by decide +kernel, ⟨fun _ => rfl, fun h => absurd rfl h⟩, Or.inr ⟨by decide, "Striping", rt_inN 107 rfl rfl⟩⟩
set_option maxRecDepth 100000 in
theorem rt_f_8 : rt_fP (4, 62, 4, 5, .int, 0) := ⟨_, rt_T4, 9, rfl, by decide, by decide +kernel, ⟨fun _ => rfl, fun h => absurd rfl h⟩, Or.inl ⟨rt_in 160 rfl rfl, fun h => absurd h (by decide)⟩⟩
set_option maxRecDepth 100000 in
theorem rt_f_9 : rt_fP (4, 99, 1, 5, .int, 0) := ⟨_, rt_T1, 7, rfl, by decide, by decide +kernel, ⟨fun _ => rfl, fun h => absurd rfl h⟩, Or.inr ⟨by decide, "Striping", rt_inN 105 rfl rfl⟩⟩
set_option maxRecDepth 100000 in
theorem rt_f_10 : rt_fP (4, 135, 4, 8, .long, 0) := ⟨_, rt_T4, 9, rfl, by decide, by decide +kernel, ⟨fun _ => rfl, fun h => absurd rfl h⟩, Or.inl ⟨rt_in 163 rfl rfl, fun h => absurd h (by decide)⟩⟩
set_option maxRecDepth 100000 in
theorem rt_f_11 : rt_fP (4, 145, 2, 1, .int, 0) := ⟨_, rt_T2, 2, rfl, by decide, by decide +kernel, ⟨fun _ => rfl, fun h => absurd rfl h⟩, Or.inr ⟨by decide, "Striping", rt_inN 131 rfl rfl⟩⟩
set_option maxRecDepth 100000 in
theorem rt_f_12 : rt_fP (4, 154, 4, 6, .int, 0) := ⟨_, rt_T4, 9, rfl, by decide, by decide +kernel, ⟨fun _ => rfl, fun h => absurd rfl h⟩, Or.inl ⟨rt_in 161 rfl rfl, fun h => absurd h (by decide)⟩⟩
set_option maxRecDepth 100000 in
theorem rt_f_13 : rt_fP (4, 157, 1, 4, .int, 0) := ⟨_, rt_T1, 7, rfl, by decide, by decide +kernel, ⟨fun _ => rfl, fun h => absurd rfl h⟩, Or.inr ⟨by decide, "Striping", rt_inN 103 rfl rfl⟩⟩
set_option maxRecDepth 100000 in
theorem rt_f_14 : rt_fP (4, 161, 4, 7, .int, 0) := ⟨_, rt_T4, 9, rfl, by decide, by decide +kernel, ⟨fun _ => rfl, fun h => absurd rfl h⟩, Or.inl ⟨rt_in 162 rfl rfl, fun h => absurd h (by decide)⟩⟩
set_option maxRecDepth 100000 in
theorem rt_f_15 : rt_fP (0, 15, 0, 0, .array .int, 1) := ⟨_, rt_T0, 2, rfl, by decide, by decide +kernel, ⟨fun h => absurd h (by decide), fun _ => rfl⟩, Or.inl ⟨rt_in 148 rfl rfl, fun _ => rfl⟩⟩
set_option maxRecDepth 100000 in
theorem rt_f_16 : rt_fP (0, 23, 0, 1, .array (.array .int), 1) := ⟨_, rt_T0, 2, rfl, by decide, by decide +kernel, ⟨fun h => absurd h (by decide), fun _ => rfl⟩, Or.inl ⟨rt_in 149 rfl rfl, fun _ => rfl⟩⟩
set_option maxRecDepth 100000 in
theorem rt_f_17 : rt_fP (1, 9, 1, 0, .array .int, 1) := ⟨_, rt_T1, 7, rfl, by decide, by decide +kernel, ⟨fun h => absurd h (by decide), fun _ => rfl⟩, Or.inl ⟨rt_in 98 rfl rfl, fun _ => rfl⟩⟩
set_option maxRecDepth 100000 in
theorem rt_f_18 : rt_fP (1, 15, 1, 1, .array .int, 1) := ⟨_, rt_T1, 7, rfl, by decide, by decide +kernel, ⟨fun h => absurd h (by decide), fun _ => rfl⟩, Or.inl ⟨rt_in 99 rfl rfl, fun _ => rfl⟩⟩
set_option maxRecDepth 100000 in
theorem rt_f_19 : rt_fP (1, 18, 1, 2, .array .int, 0) := ⟨_, rt_T1, 7, rfl, by decide, by decide +kernel, ⟨fun _ => rfl, fun h => absurd rfl h⟩, Or.inl ⟨rt_in 100 rfl rfl, fun h => absurd h (by decide)⟩⟩
set_option maxRecDepth 100000 in
theorem rt_f_20 : rt_fP (1, 21, 1, 3, .array .int, 0) := ⟨_, rt_T1, 7, rfl, by decide, by decide +kernel, ⟨fun _ => rfl, fun h => absurd rfl h⟩, Or.inl ⟨rt_in 101 rfl rfl, fun h => absurd h (by decide)⟩⟩
set_option maxRecDepth 100000 in
theorem rt_f_21 : rt_fP (1, 27, 1, 6, .boolean, 0) := ⟨_, rt_T1, 7, rfl, by decide, by decide +kernel, ⟨fun _ => rfl, fun h => absurd rfl h⟩, Or.inl ⟨rt_in 106 rfl rfl, fun h => absurd h (by decide)⟩⟩
set_option maxRecDepth 100000 in
theorem rt_f_22 : rt_fP (1, 31, 1, 4, .int, 0) := ⟨_, rt_T1, 7, rfl, by decide, by decide +kernel, ⟨fun _ => rfl, fun h => absurd rfl h⟩, Or.inl ⟨rt_in 102 rfl rfl, fun h => absurd h (by decide)⟩⟩
set_option maxRecDepth 100000 in
theorem rt_f_23 : rt_fP (1, 35, 1, 5, .int, 0) := ⟨_, rt_T1, 7, rfl, by decide, by decide +kernel, ⟨fun _ => rfl, fun h => absurd rfl h⟩, Or.inl ⟨rt_in 104 rfl rfl, fun h => absurd h (by decide)⟩⟩
set_option maxRecDepth 100000 in
theorem rt_f_24 : rt_fP (2, 11, 2, 0, .array .int, 0) := ⟨_, rt_T2, 2, rfl, by decide, by decide +kernel, ⟨fun _ => rfl, fun h => absurd rfl h⟩, Or.inl ⟨rt_in 129 rfl rfl, fun h => absurd h (by decide)⟩⟩
set_option maxRecDepth 100000 in
theorem rt_f_25 : rt_fP (2, 15, 2, 1, .int, 0) := ⟨_, rt_T2, 2, rfl, by decide, by decide +kernel, ⟨fun _ => rfl, fun h => absurd rfl h⟩, Or.inl ⟨rt_in 130 rfl rfl, fun h => absurd h (by decide)⟩⟩
set_option maxRecDepth 100000 in
theorem rt_f_26 : rt_fP (3, 9, 3, 0, .array .int, 1) := ⟨_, rt_T3, 11, rfl, by decide, by decide +kernel, ⟨fun h => absurd h (by decide), fun _ => rfl⟩, Or.inl ⟨rt_in 54 rfl rfl, fun _ => rfl⟩⟩
set_option maxRecDepth 100000 in
theorem rt_f_27 : rt_fP (3, 15, 3, 1, .array .int, 1) := ⟨_, rt_T3, 11, rfl, by decide, by decide +kernel, ⟨fun h => absurd h (by decide), fun _ => rfl⟩, Or.inl ⟨rt_in 55 rfl rfl, fun _ => rfl⟩⟩
set_option maxRecDepth 100000 in
theorem rt_f_28 : rt_fP (3, 18, 3, 2, .array .int, 1) := ⟨_, rt_T3, 11, rfl, by decide, by decide +kernel, ⟨fun h => absurd h (by decide), fun _ => rfl⟩, Or.inl ⟨rt_in 56 rfl rfl, fun _ => rfl⟩⟩
set_option maxRecDepth 100000 in
theorem rt_f_29 : rt_fP (3, 21, 3, 3, .array .int, 1) := ⟨_, rt_T3, 11, rfl, by decide, by decide +kernel, ⟨fun h => absurd h (by decide), fun _ => rfl⟩, Or.inl ⟨rt_in 57 rfl rfl, fun _ => rfl⟩⟩
set_option maxRecDepth 100000 in
theorem rt_f_30 : rt_fP (3, 24, 3, 4, .array .int, 1) := ⟨_, rt_T3, 11, rfl, by decide, by decide +kernel, ⟨fun h => absurd h (by decide), fun _ => rfl⟩, Or.inl ⟨rt_in 58 rfl rfl, fun _ => rfl⟩⟩
set_option maxRecDepth 100000 in
theorem rt_f_31 : rt_fP (3, 27, 3, 5, .array .int, 1) := ⟨_, rt_T3, 11, rfl, by decide, by decide +kernel, ⟨fun h => absurd h (by decide), fun _ => rfl⟩, Or.inl ⟨rt_in 59 rfl rfl, fun _ => rfl⟩⟩
set_option maxRecDepth 100000 in
theorem rt_f_32 : rt_fP (3, 30, 3, 6, .array .int, 1) := ⟨_, rt_T3, 11, rfl, by decide, by decide +kernel, ⟨fun h => absurd h (by decide), fun _ => rfl⟩, Or.inl ⟨rt_in 60 rfl rfl, fun _ => rfl⟩⟩
set_option maxRecDepth 100000 in
theorem rt_f_33 : rt_fP (3, 33, 3, 7, .array .long, 1) := ⟨_, rt_T3, 11, rfl, by decide, by decide +kernel, ⟨fun h => absurd h (by decide), fun _ => rfl⟩, Or.inl ⟨rt_in 61 rfl rfl, fun _ => rfl⟩⟩
set_option maxRecDepth 100000 in
theorem rt_f_34 : rt_fP (3, 37, 3, 10, .boolean, 0) := ⟨_, rt_T3, 11, rfl, by decide, by decide +kernel, ⟨fun _ => rfl, fun h => absurd rfl h⟩, Or.inl ⟨rt_in 65 rfl rfl, fun h => absurd h (by decide)⟩⟩
set_option maxRecDepth 100000 in
theorem rt_f_35 : rt_fP (3, 41, 3, 8, .int, 0) := ⟨_, rt_T3, 11, rfl, by decide, by decide +kernel, ⟨fun _ => rfl, fun h => absurd rfl h⟩, Or.inl ⟨rt_in 62 rfl rfl, fun h => absurd h (by decide)⟩⟩
set_option maxRecDepth 100000 in
theorem rt_f_36 : rt_fP (3, 59, 3, 9, .int, 0) := ⟨_, rt_T3, 11, rfl, by decide, by decide +kernel, ⟨fun _ => rfl, fun h => absurd rfl h⟩, Or.inl ⟨rt_in 63 rfl rfl, fun h => absurd h (by decide)⟩⟩
set_option maxRecDepth 100000 in
theorem rt_f_37 : rt_fP (5, 7, 5, 0, .array .int, 1) := ⟨_, rt_T5, 25, rfl, by decide, by decide +kernel, ⟨fun h => absurd h (by decide), fun _ => rfl⟩, Or.inl ⟨rt_in 471 rfl rfl, fun _ => rfl⟩⟩
set_option maxRecDepth 100000 in
theorem rt_f_38 : rt_fP (5, 13, 5, 1, .array .int, 1) := ⟨_, rt_T5, 25, rfl, by decide, by decide +kernel, ⟨fun h => absurd h (by decide), fun _ => rfl⟩, Or.inl ⟨rt_in 472 rfl rfl, fun _ => rfl⟩⟩
set_option maxRecDepth 100000 in
theorem rt_f_39 : rt_fP (5, 16, 5, 2, .array .int, 1) := ⟨_, rt_T5, 25, rfl, by decide, by decide +kernel, ⟨fun h => absurd h (by decide), fun _ => rfl⟩, Or.inl ⟨rt_in 473 rfl rfl, fun _ => rfl⟩⟩
set_option maxRecDepth 100000 in
theorem rt_f_40 : rt_fP (5, 19, 5, 3, .array .boolean, 1) := ⟨_, rt_T5, 25, rfl, by decide, by decide +kernel, ⟨fun h => absurd h (by decide), fun _ => rfl⟩, Or.inl ⟨rt_in 474 rfl rfl, fun _ => rfl⟩⟩
set_option maxRecDepth 100000 in
theorem rt_f_41 : rt_fP (5, 23, 5, 6, .array .int, 1) := ⟨_, rt_T5, 25, rfl, by decide, by decide +kernel, ⟨fun h => absurd h (by decide), fun _ => rfl⟩, Or.inl ⟨rt_in 477 rfl rfl, fun _ => rfl⟩⟩
set_option maxRecDepth 100000 in
theorem rt_f_42 : rt_fP (5, 26, 5, 7, .array .int, 1) := ⟨_, rt_T5, 25, rfl, by decide, by decide +kernel, ⟨fun h => absurd h (by decide), fun _ => rfl⟩, Or.inl ⟨rt_in 478 rfl rfl, fun _ => rfl⟩⟩
set_option maxRecDepth 100000 in
theorem rt_f_43 : rt_fP (5, 29, 5, 8, .array .int, 1) := ⟨_, rt_T5, 25, rfl, by decide, by decide +kernel, ⟨fun h => absurd h (by decide), fun _ => rfl⟩, Or.inl ⟨rt_in 479 rfl rfl, fun _ => rfl⟩⟩
set_option maxRecDepth 100000 in
theorem rt_f_44 : rt_fP (5, 32, 5, 10, .array .int, 1) := ⟨_, rt_T5, 25, rfl, by decide, by decide +kernel, ⟨fun h => absurd h (by decide), fun _ => rfl⟩, Or.inl ⟨rt_in 481 rfl rfl, fun _ => rfl⟩⟩
set_option maxRecDepth 100000 in
theorem rt_f_45 : rt_fP (5, 35, 5, 13, .int, 0) := ⟨_, rt_T5, 25, rfl, by decide, by decide +kernel, ⟨fun _ => rfl, fun h => absurd rfl h⟩, Or.inl ⟨rt_in 484 rfl rfl, fun h => absurd h (by decide)⟩⟩
set_option maxRecDepth 100000 in
theorem rt_f_46 : rt_fP (5, 39, 5, 14, .array .int, 1) := ⟨_, rt_T5, 25, rfl, by decide, by decide +kernel, ⟨fun h => absurd h (by decide), fun _ => rfl⟩, Or.inl ⟨rt_in 485 rfl rfl, fun _ => rfl⟩⟩
set_option maxRecDepth 100000 in
theorem rt_f_47 : rt_fP (5, 42, 5, 15, .array .int, 1) := ⟨_, rt_T5, 25, rfl, by decide, by decide +kernel, ⟨fun h => absurd h (by decide), fun _ => rfl⟩, Or.inl ⟨rt_in 486 rfl rfl, fun _ => rfl⟩⟩
set_option maxRecDepth 100000 in
theorem rt_f_48 : rt_fP (5, 45, 5, 20, .array .boolean, 1) := ⟨_, rt_T5, 25, rfl, by decide, by decide +kernel, ⟨fun h => absurd h (by decide), fun _ => rfl⟩, Or.inl ⟨rt_in 491 rfl rfl, fun _ => rfl⟩⟩
set_option maxRecDepth 100000 in
theorem rt_f_49 : rt_fP (5, 48, 5, 21, .array .int, 1) := ⟨_, rt_T5, 25, rfl, by decide, by decide +kernel, ⟨fun h => absurd h (by decide), fun _ => rfl⟩, Or.inl ⟨rt_in 492 rfl rfl, fun _ => rfl⟩⟩
set_option maxRecDepth 100000 in
theorem rt_f_50 : rt_fP (5, 51, 5, 22, .array .int, 1) := ⟨_, rt_T5, 25, rfl, by decide, by decide +kernel, ⟨fun h => absurd h (by decide), fun _ => rfl⟩, Or.inl ⟨rt_in 493 rfl rfl, fun _ => rfl⟩⟩
set_option maxRecDepth 100000 in
theorem rt_f_51 : rt_fP (5, 54, 5, 4, .int, 0) := ⟨_, rt_T5, 25, rfl, by decide, by decide +kernel, ⟨fun _ => rfl, fun h => absurd rfl h⟩, Or.inl ⟨rt_in 475 rfl rfl, fun h => absurd h (by decide)⟩⟩
set_option maxRecDepth 100000 in
theorem rt_f_52 : rt_fP (5, 57, 5, 5, .boolean, 0) := ⟨_, rt_T5, 25, rfl, by decide, by decide +kernel, ⟨fun _ => rfl, fun h => absurd rfl h⟩, Or.inl ⟨rt_in 476 rfl rfl, fun h => absurd h (by decide)⟩⟩
set_option maxRecDepth 100000 in
theorem rt_f_53 : rt_fP (5, 80, 5, 12, .boolean, 0) := ⟨_, rt_T5, 25, rfl, by decide, by decide +kernel, ⟨fun _ => rfl, fun h => absurd rfl h⟩, Or.inl ⟨rt_in 483 rfl rfl, fun h => absurd h (by decide)⟩⟩
set_option maxRecDepth 100000 in
theorem rt_f_54 : rt_fP (5, 83, 5, 11, .int, 0) := ⟨_, rt_T5, 25, rfl, by decide, by decide +kernel, ⟨fun _ => rfl, fun h => absurd rfl h⟩, Or.inl ⟨rt_in 482 rfl rfl, fun h => absurd h (by decide)⟩⟩
set_option maxRecDepth 100000 in
theorem rt_f_55 : rt_fP (5, 86, 5, 9, .int, 0) := ⟨_, rt_T5, 25, rfl, by decide, by decide +kernel, ⟨fun _ => rfl, fun h => absurd rfl h⟩, Or.inl ⟨rt_in 480 rfl rfl, fun h => absurd h (by decide)⟩⟩
set_option maxRecDepth 100000 in
theorem rt_f_56 : rt_fP (5, 96, 5, 16, .int, 0) := ⟨_, rt_T5, 25, rfl, by decide, by decide +kernel, ⟨fun _ => rfl, fun h => absurd rfl h⟩, Or.inl ⟨rt_in 487 rfl rfl, fun h => absurd h (by decide)⟩⟩
set_option maxRecDepth 100000 in
theorem rt_f_57 : rt_fP (5, 103, 5, 24, .int, 0) := ⟨_, rt_T5, 25, rfl, by decide, by decide +kernel, ⟨fun _ => rfl, fun h => absurd rfl h⟩, Or.inl ⟨rt_in 495 rfl rfl, fun h => absurd h (by decide)⟩⟩
set_option maxRecDepth 100000 in
theorem rt_f_58 : rt_fP (5, 109, 5, 17, .int, 0) := ⟨_, rt_T5, 25, rfl, by decide, by decide +kernel, ⟨fun _ => rfl, fun h => absurd rfl h⟩, Or.inl ⟨rt_in 488 rfl rfl, fun h => absurd h (by decide)⟩⟩
set_option maxRecDepth 100000 in
theorem rt_f_59 : rt_fP (5, 112, 5, 18, .int, 0) := ⟨_, rt_T5, 25, rfl, by decide, by decide +kernel, ⟨fun _ => rfl, fun h => absurd rfl h⟩, Or.inl ⟨rt_in 489 rfl rfl, fun h => absurd h (by decide)⟩⟩
set_option maxRecDepth 100000 in
theorem rt_f_60 : rt_fP (5, 115, 5, 19, .int, 0) := ⟨_, rt_T5, 25, rfl, by decide, by decide +kernel, ⟨fun _ => rfl, fun h => absurd rfl h⟩, Or.inl ⟨rt_in 490 rfl rfl, fun h => absurd h (by decide)⟩⟩
set_option maxRecDepth 100000 in
theorem rt_f_61 : rt_fP (5, 124, 5, 23, .int, 0) := ⟨_, rt_T5, 25, rfl, by decide, by decide +kernel, ⟨fun _ => rfl, fun h => absurd rfl h⟩, Or.inl ⟨rt_in 494 rfl rfl, fun h => absurd h (by decide)⟩⟩
set_option maxRecDepth 100000 in
theorem rt_f_all : ∀ x ∈ rt_fL, rt_fP x := List.forall_mem_cons.mpr ⟨rt_f_0, List.forall_mem_cons.mpr ⟨rt_f_1, List.forall_mem_cons.mpr ⟨rt_f_2, List.forall_mem_cons.mpr ⟨rt_f_3, List.forall_mem_cons.mpr ⟨rt_f_4, List.forall_mem_cons.mpr ⟨rt_f_5, List.forall_mem_cons.mpr ⟨rt_f_6, List.forall_mem_cons.mpr ⟨rt_f_7, List.forall_mem_cons.mpr ⟨rt_f_8, List.forall_mem_cons.mpr ⟨rt_f_9, List.forall_mem_cons.mpr ⟨rt_f_10, List.forall_mem_cons.mpr ⟨rt_f_11, List.forall_mem_cons.mpr ⟨rt_f_12, List.forall_mem_cons.mpr ⟨rt_f_13, List.forall_mem_cons.mpr ⟨rt_f_14, List.forall_mem_cons.mpr ⟨rt_f_15, List.forall_mem_cons.mpr ⟨rt_f_16, List.forall_mem_cons.mpr ⟨rt_f_17, List.forall_mem_cons.mpr ⟨rt_f_18, List.forall_mem_cons.mpr ⟨rt_f_19, List.forall_mem_cons.mpr ⟨rt_f_20, List.forall_mem_cons.mpr ⟨rt_f_21, List.forall_mem_cons.mpr ⟨rt_f_22, List.forall_mem_cons.mpr ⟨rt_f_23, List.forall_mem_cons.mpr ⟨rt_f_24, List.forall_mem_cons.mpr ⟨rt_f_25, List.forall_mem_cons.mpr ⟨rt_f_26, List.forall_mem_cons.mpr ⟨rt_f_27, List.forall_mem_cons.mpr ⟨rt_f_28, List.forall_mem_cons.mpr ⟨rt_f_29, List.forall_mem_cons.mpr ⟨rt_f_30, List.forall_mem_cons.mpr ⟨rt_f_31, List.forall_mem_cons.mpr ⟨rt_f_32, List.forall_mem_cons.mpr ⟨rt_f_33, List.forall_mem_cons.mpr ⟨rt_f_34, List.forall_mem_cons.mpr ⟨rt_f_35, List.forall_mem_cons.mpr ⟨rt_f_36, List.forall_mem_cons.mpr ⟨rt_f_37, List.forall_mem_cons.mpr ⟨rt_f_38, List.forall_mem_cons.mpr ⟨rt_f_39, List.forall_mem_cons.mpr ⟨rt_f_40, List.forall_mem_cons.mpr ⟨rt_f_41, List.forall_mem_cons.mpr ⟨rt_f_42, List.forall_mem_cons.mpr ⟨rt_f_43, List.forall_mem_cons.mpr ⟨rt_f_44, List.forall_mem_cons.mpr ⟨rt_f_45, List.forall_mem_cons.mpr ⟨rt_f_46, List.forall_mem_cons.mpr ⟨rt_f_47, List.forall_mem_cons.mpr ⟨rt_f_48, List.forall_mem_cons.mpr ⟨rt_f_49, List.forall_mem_cons.mpr ⟨rt_f_50, List.forall_mem_cons.mpr ⟨rt_f_51, List.forall_mem_cons.mpr ⟨rt_f_52, List.forall_mem_cons.mpr ⟨rt_f_53, List.forall_mem_cons.mpr ⟨rt_f_54, List.forall_mem_cons.mpr ⟨rt_f_55, List.forall_mem_cons.mpr ⟨rt_f_56, List.forall_mem_cons.mpr ⟨rt_f_57, List.forall_mem_cons.mpr ⟨rt_f_58, List.forall_mem_cons.mpr ⟨rt_f_59, List.forall_mem_cons.mpr ⟨rt_f_60, List.forall_mem_cons.mpr ⟨rt_f_61, fun _ h => absurd h List.not_mem_nil⟩⟩⟩⟩⟩⟩⟩⟩⟩⟩⟩⟩⟩⟩⟩⟩⟩⟩⟩⟩⟩⟩⟩⟩⟩⟩⟩⟩⟩⟩⟩⟩⟩⟩⟩⟩⟩⟩⟩⟩⟩⟩⟩⟩⟩⟩⟩⟩⟩⟩⟩⟩⟩⟩⟩⟩⟩⟩⟩⟩⟩⟩
set_option maxRecDepth 100000 in
theorem rt_f_ok {ci k cj j fl : Nat} {ty : FieldType} (h : rt_f ci k = some (cj, j, ty, fl)) : rt_fP (ci, k, cj, j, ty, fl) := rt_f_all _ (rt_lk_mem h)
def rt_nL : List (Nat × Nat × Nat × List Value) := [(4, 7, 3, [.null, .null, .null, .null, .null, .null, .null, .null, .int 0, .int 0, .int 0]), (4, 16, 1, [.null, .null, .null, .null, .int 0, .int 0, .int 0]), (4, 23, 2, [.null, .int 0]), (4, 34, 0, [.null, .null]), (6, 7, 4, [.null, .null, .null, .null, .null, .int 0, .int 0, .int 0, .long 0]), (6, 10, 5, [.null, .null, .null, .null, .int 0, .int 0, .null, .null, .null, .int 0, .null, .int 0, .int 0, .int 0, .null, .null, .int 0, .int 0, .int 0, .int 0, .null, .null, .null, .int 0, .int 0])]
def rt_n (ci k : Nat) : Option (Nat × List Value) := rt_lk ci k rt_nL
def rt_nP (x : Nat × Nat × Nat × List Value) : Prop := match x with
  | (ci, k, cj, fs) => ∃ (C : String) (T : u_T) (N : Nat) (ty0 : Nat → FieldType), vwCl[cj]? = some (C, T, N) ∧ (∀ k, k < N → parseFieldDescriptor (T k).2.2.1 = some (ty0 k)) ∧ Cond.classLink (rt_cn ci) k C ∈ rt_tbl ∧ Cond.instantiable C N ∈ rt_tbl ∧ Cond.initialized C ∈ rt_tbl ∧ N = fs.length ∧ (∀ j, j < N → defaultValue (ty0 j) = vp_V fs j)
set_option maxRecDepth 100000 in
theorem rt_n_0 : rt_nP (4, 7, 3, [.null, .null, .null, .null, .null, .null, .null, .null, .int 0, .int 0, .int 0]) := ⟨_, rt_T3, 11, rt_y3, rfl, by decide +kernel, rt_in 48 rfl rfl, rt_in 49 rfl rfl, rt_in 32 rfl rfl, rfl, by decide +kernel⟩
set_option maxRecDepth 100000 in
theorem rt_n_1 : rt_nP (4, 16, 1, [.null, .null, .null, .null, .int 0, .int 0, .int 0]) := ⟨_, rt_T1, 7, rt_y1, rfl, by decide +kernel, rt_in 92 rfl rfl, rt_in 93 rfl rfl, rt_in 33 rfl rfl, rfl, by decide +kernel⟩
set_option maxRecDepth 100000 in
theorem rt_n_2 : rt_nP (4, 23, 2, [.null, .int 0]) := ⟨_, rt_T2, 2, rt_y2, rfl, by decide +kernel, rt_in 123 rfl rfl, rt_in 124 rfl rfl, rt_in 34 rfl rfl, rfl, by decide +kernel⟩
set_option maxRecDepth 100000 in
theorem rt_n_3 : rt_nP (4, 34, 0, [.null, .null]) := ⟨_, rt_T0, 2, rt_y0, rfl, by decide +kernel, rt_in 137 rfl rfl, rt_in 138 rfl rfl, rt_in 35 rfl rfl, rfl, by decide +kernel⟩
set_option maxRecDepth 100000 in
theorem rt_n_4 : rt_nP (6, 7, 4, [.null, .null, .null, .null, .null, .int 0, .int 0, .int 0, .long 0]) := ⟨_, rt_T4, 9, rt_y4, rfl, by decide +kernel, rt_in 40 rfl rfl, rt_in 41 rfl rfl, rt_in 31 rfl rfl, rfl, by decide +kernel⟩
set_option maxRecDepth 100000 in
theorem rt_n_5 : rt_nP (6, 10, 5, [.null, .null, .null, .null, .int 0, .int 0, .null, .null, .null, .int 0, .null, .int 0, .int 0, .int 0, .null, .null, .int 0, .int 0, .int 0, .int 0, .null, .null, .null, .int 0, .int 0]) := ⟨_, rt_T5, 25, rt_y5, rfl, by decide +kernel, rt_in 465 rfl rfl, rt_in 466 rfl rfl, rt_in 37 rfl rfl, rfl, by decide +kernel⟩
set_option maxRecDepth 100000 in
theorem rt_n_all : ∀ x ∈ rt_nL, rt_nP x := List.forall_mem_cons.mpr ⟨rt_n_0, List.forall_mem_cons.mpr ⟨rt_n_1, List.forall_mem_cons.mpr ⟨rt_n_2, List.forall_mem_cons.mpr ⟨rt_n_3, List.forall_mem_cons.mpr ⟨rt_n_4, List.forall_mem_cons.mpr ⟨rt_n_5, fun _ h => absurd h List.not_mem_nil⟩⟩⟩⟩⟩⟩
set_option maxRecDepth 100000 in
theorem rt_n_ok {ci k cj : Nat} {fs : List Value} (h : rt_n ci k = some (cj, fs)) : rt_nP (ci, k, cj, fs) := rt_n_all _ (rt_lk_mem h)
def rt_iL : List (Nat × Nat × Int32) := []
def rt_i (ci k : Nat) : Option Int32 := rt_lk ci k rt_iL
set_option maxRecDepth 100000 in
theorem rt_i_ok {ci k : Nat} {v : Int32} (h : rt_i ci k = some v) : Cond.constant (rt_cn ci) k v ∈ rt_tbl := absurd (rt_lk_mem h) List.not_mem_nil
def rt_lL : List (Nat × Nat × Int64) := [(4, 131, (4294967295 : Int64)), (4, 133, (65535 : Int64))]
def rt_l (ci k : Nat) : Option Int64 := rt_lk ci k rt_lL
set_option maxRecDepth 100000 in
theorem rt_l_0 : Cond.constantLong (rt_cn 4) 131 (4294967295 : Int64) ∈ rt_tbl := rt_in 405 rfl rfl
set_option maxRecDepth 100000 in
theorem rt_l_1 : Cond.constantLong (rt_cn 4) 133 (65535 : Int64) ∈ rt_tbl := rt_in 406 rfl rfl
def rt_lP (x : Nat × Nat × Int64) : Prop := Cond.constantLong (rt_cn x.1) x.2.1 x.2.2 ∈ rt_tbl
set_option maxRecDepth 100000 in
theorem rt_l_all : ∀ x ∈ rt_lL, rt_lP x := List.forall_mem_cons.mpr ⟨rt_l_0, List.forall_mem_cons.mpr ⟨rt_l_1, fun _ h => absurd h List.not_mem_nil⟩⟩
set_option maxRecDepth 100000 in
theorem rt_l_ok {ci k : Nat} {v : Int64} (h : rt_l ci k = some v) : Cond.constantLong (rt_cn ci) k v ∈ rt_tbl := rt_l_all _ (rt_lk_mem h)
def rt_oL : List (Nat × Nat × Nat) := [(4, 1, 1), (4, 225, 2), (0, 3, 1), (0, 9, 2), (1, 3, 1), (2, 3, 1), (3, 3, 1), (3, 72, 2), (5, 1, 1), (7, 150, 4), (7, 304, 3)]
def rt_o (ci k : Nat) : Nat := match rt_lk ci k rt_oL with
  | some n => n
  | none => 0
def rt_oP (x : Nat × Nat × Nat) : Prop := match x.2.2 with
  | 1 => Cond.methodLink (rt_cn x.1) x.2.1 Lib.objectInit ∈ rt_tbl
  | 2 => Cond.methodLink (rt_cn x.1) x.2.1 Lib.Math.max.name ∈ rt_tbl
  | 3 => Cond.methodLink (rt_cn x.1) x.2.1 Lib.Math.min.name ∈ rt_tbl
  | 4 => Cond.methodLink (rt_cn x.1) x.2.1 arraycopyName ∈ rt_tbl
  | _ => True
set_option maxRecDepth 100000 in
theorem rt_o_0 : rt_oP (4, 1, 1) := rt_in 45 rfl rfl
set_option maxRecDepth 100000 in
theorem rt_o_1 : rt_oP (4, 225, 2) := rt_in 276 rfl rfl
set_option maxRecDepth 100000 in
theorem rt_o_2 : rt_oP (0, 3, 1) := rt_in 142 rfl rfl
set_option maxRecDepth 100000 in
theorem rt_o_3 : rt_oP (0, 9, 2) := rt_in 143 rfl rfl
set_option maxRecDepth 100000 in
theorem rt_o_4 : rt_oP (1, 3, 1) := rt_in 97 rfl rfl
set_option maxRecDepth 100000 in
theorem rt_o_5 : rt_oP (2, 3, 1) := rt_in 128 rfl rfl
set_option maxRecDepth 100000 in
theorem rt_o_6 : rt_oP (3, 3, 1) := rt_in 53 rfl rfl
set_option maxRecDepth 100000 in
theorem rt_o_7 : rt_oP (3, 72, 2) := rt_in 268 rfl rfl
set_option maxRecDepth 100000 in
theorem rt_o_8 : rt_oP (5, 1, 1) := rt_in 470 rfl rfl
set_option maxRecDepth 100000 in
theorem rt_o_9 : rt_oP (7, 150, 4) := rt_in 290 rfl rfl
set_option maxRecDepth 100000 in
theorem rt_o_10 : rt_oP (7, 304, 3) := rt_in 287 rfl rfl
set_option maxRecDepth 100000 in
theorem rt_o_all : ∀ x ∈ rt_oL, rt_oP x := List.forall_mem_cons.mpr ⟨rt_o_0, List.forall_mem_cons.mpr ⟨rt_o_1, List.forall_mem_cons.mpr ⟨rt_o_2, List.forall_mem_cons.mpr ⟨rt_o_3, List.forall_mem_cons.mpr ⟨rt_o_4, List.forall_mem_cons.mpr ⟨rt_o_5, List.forall_mem_cons.mpr ⟨rt_o_6, List.forall_mem_cons.mpr ⟨rt_o_7, List.forall_mem_cons.mpr ⟨rt_o_8, List.forall_mem_cons.mpr ⟨rt_o_9, List.forall_mem_cons.mpr ⟨rt_o_10, fun _ h => absurd h List.not_mem_nil⟩⟩⟩⟩⟩⟩⟩⟩⟩⟩⟩
set_option maxRecDepth 100000 in
theorem rt_o_ok {ci k n : Nat} (h : rt_o ci k = n) : rt_oP (ci, k, n) := by
  unfold rt_o at h
  split at h
  · rename_i m hm
    subst h
    exact rt_o_all _ (rt_lk_mem hm)
  · subst h
    exact trivial
set_option maxRecDepth 100000 in
theorem rt_lf_obj : Cond.instanceMethod Lib.objectInit ∈ rt_tbl ∧ Cond.code Lib.objectInit ⟨#[0xb1]⟩ 1 none ∈ rt_tbl := ⟨rt_in 46 rfl rfl, rt_in 47 rfl rfl⟩
set_option maxRecDepth 100000 in
theorem rt_lf_max : Cond.static Lib.Math.max.name ∈ rt_tbl ∧ Cond.initialized "java/lang/Math" ∈ rt_tbl ∧ Cond.code Lib.Math.max.name Lib.Math.max.code 2 (some .int) ∈ rt_tbl := ⟨rt_in 144 rfl rfl, rt_in 36 rfl rfl, rt_in 145 rfl rfl⟩
set_option maxRecDepth 100000 in
theorem rt_lf_min : Cond.static Lib.Math.min.name ∈ rt_tbl ∧ Cond.initialized "java/lang/Math" ∈ rt_tbl ∧ Cond.code Lib.Math.min.name Lib.Math.min.code 2 (some .int) ∈ rt_tbl := ⟨rt_in 288 rfl rfl, rt_in 36 rfl rfl, rt_in 289 rfl rfl⟩
set_option maxRecDepth 100000 in
theorem rt_lf_cpy : Cond.native arraycopyName ∈ rt_tbl ∧ Cond.static arraycopyName ∈ rt_tbl ∧ Cond.initialized "java/lang/System" ∈ rt_tbl := ⟨rt_in 292 rfl rfl, rt_in 291 rfl rfl, rt_in 39 rfl rfl⟩
def rt_mL : List (Nat × Nat × Unit) := [(0, 21, ())]
def rt_m (ci k : Nat) : Bool := (rt_lk ci k rt_mL).isSome
def rt_mP (x : Nat × Nat × Unit) : Prop := Cond.classLink (rt_cn x.1) x.2.1 "[[I" ∈ rt_tbl
set_option maxRecDepth 100000 in
theorem rt_m_0 : rt_mP (0, 21, ()) := rt_in 146 rfl rfl
set_option maxRecDepth 100000 in
theorem rt_m_all : ∀ x ∈ rt_mL, rt_mP x := List.forall_mem_cons.mpr ⟨rt_m_0, fun _ h => absurd h List.not_mem_nil⟩
set_option maxRecDepth 100000 in
theorem rt_m_ok {ci k : Nat} (h : rt_m ci k = true) : Cond.classLink (rt_cn ci) k "[[I" ∈ rt_tbl := by
  unfold rt_m at h
  obtain ⟨y, hy⟩ := Option.isSome_iff_exists.mp h
  exact rt_m_all _ (rt_lk_mem hy)
set_option maxRecDepth 100000 in
theorem rt_over : lw_tbl[147]? = some (Cond.arrayOver (.array .int)) := rfl
end
section
/-! THE METHODS' INSTRUCTIONS (written by gen03.py) -/
def ri_okM (M : ri_M) : Prop := (∀ x ∈ M.2.2.2.2.2, ri_ck M.2.2.1 x) ∧ M.2.1.cls = rt_cn M.1 ∧ plainName M.2.1.cls = true ∧ Cond.code M.2.1 M.2.2.1 M.2.2.2.1 M.2.2.2.2.1 ∈ rt_tbl ∧ M.2.2.2.1 ≤ 45
def ri_cks (b : ByteArray) (l : List ri_I) : Bool := l.all fun x => decide (decode b x.1 = .ok (x.2.1, x.2.2.1 - x.1)) && ri_sp x
theorem ri_cks_ok {b : ByteArray} {l : List ri_I} (h : ri_cks b l = true) : ∀ x ∈ l, ri_ck b x := by
  intro x hx
  have h1 := List.all_eq_true.mp h x hx
  simp only [Bool.and_eq_true, decide_eq_true_eq] at h1
  exact h1
def mSt_init : ri_M := (4, ⟨"Striping", "<init>", "()V"⟩, prog_1_method_1_code, 1, (none), [(0, .aload_n 0, 1, 0, 0), (1, .invokespecial 1, 4, 0, 0), (4, .aload_n 0, 5, 0, 0), (5, .new 7, 8, 0, 0), (8, .dup, 9, 0, 0), (9, .invokespecial 9, 12, 0, 0), (12, .putfield 10, 15, 0, 0), (15, .aload_n 0, 16, 0, 0), (16, .new 16, 19, 0, 0), (19, .dup, 20, 0, 0), (20, .invokespecial 18, 23, 0, 0), (23, .putfield 19, 26, 0, 0), (26, .aload_n 0, 27, 0, 0), (27, .new 23, 30, 0, 0), (30, .dup, 31, 0, 0), (31, .invokespecial 25, 34, 0, 0), (34, .putfield 26, 37, 0, 0), (37, .aload_n 0, 38, 0, 0), (38, .bipush 48, 40, 0, 48), (40, .newarray .int, 42, 0, 0), (42, .putfield 30, 45, 0, 0), (45, .aload_n 0, 46, 0, 0), (46, .new 34, 49, 0, 0), (49, .dup, 50, 0, 0), (50, .iconst 0, 51, 0, 0), (51, .invokespecial 36, 54, 0, 0), (54, .putfield 39, 57, 0, 0), (57, .return_, 58, 0, 0)])
def mSc_init : ri_M := (3, ⟨"Striping$Schema", "<init>", "()V"⟩, prog_5_method_1_code, 1, (none), [(0, .aload_n 0, 1, 0, 0), (1, .invokespecial 3, 4, 0, 0), (4, .aload_n 0, 5, 0, 0), (5, .bipush 48, 7, 0, 48), (7, .newarray .int, 9, 0, 0), (9, .putfield 9, 12, 0, 0), (12, .aload_n 0, 13, 0, 0), (13, .bipush 48, 15, 0, 48), (15, .newarray .int, 17, 0, 0), (17, .putfield 15, 20, 0, 0), (20, .aload_n 0, 21, 0, 0), (21, .bipush 48, 23, 0, 48), (23, .newarray .int, 25, 0, 0), (25, .putfield 18, 28, 0, 0), (28, .aload_n 0, 29, 0, 0), (29, .bipush 48, 31, 0, 48), (31, .newarray .int, 33, 0, 0), (33, .putfield 21, 36, 0, 0), (36, .aload_n 0, 37, 0, 0), (37, .bipush 48, 39, 0, 48), (39, .newarray .int, 41, 0, 0), (41, .putfield 24, 44, 0, 0), (44, .aload_n 0, 45, 0, 0), (45, .bipush 48, 47, 0, 48), (47, .newarray .int, 49, 0, 0), (49, .putfield 27, 52, 0, 0), (52, .aload_n 0, 53, 0, 0), (53, .bipush 48, 55, 0, 48), (55, .newarray .int, 57, 0, 0), (57, .putfield 30, 60, 0, 0), (60, .aload_n 0, 61, 0, 0), (61, .bipush 48, 63, 0, 48), (63, .newarray .long, 65, 0, 0), (65, .putfield 33, 68, 0, 0), (68, .return_, 69, 0, 0)])
def mDr_init : ri_M := (1, ⟨"Striping$Draft", "<init>", "()V"⟩, prog_3_method_1_code, 1, (none), [(0, .aload_n 0, 1, 0, 0), (1, .invokespecial 3, 4, 0, 0), (4, .aload_n 0, 5, 0, 0), (5, .bipush 17, 7, 0, 17), (7, .newarray .int, 9, 0, 0), (9, .putfield 9, 12, 0, 0), (12, .aload_n 0, 13, 0, 0), (13, .bipush 17, 15, 0, 17), (15, .newarray .int, 17, 0, 0), (17, .putfield 15, 20, 0, 0), (20, .aload_n 0, 21, 0, 0), (21, .bipush 32, 23, 0, 32), (23, .newarray .int, 25, 0, 0), (25, .putfield 18, 28, 0, 0), (28, .aload_n 0, 29, 0, 0), (29, .bipush 32, 31, 0, 32), (31, .newarray .int, 33, 0, 0), (33, .putfield 21, 36, 0, 0), (36, .return_, 37, 0, 0)])
def mEv_init : ri_M := (2, ⟨"Striping$Events", "<init>", "()V"⟩, prog_4_method_1_code, 1, (none), [(0, .aload_n 0, 1, 0, 0), (1, .invokespecial 3, 4, 0, 0), (4, .aload_n 0, 5, 0, 0), (5, .bipush 64, 7, 0, 64), (7, .newarray .int, 9, 0, 0), (9, .putfield 11, 12, 0, 0), (12, .return_, 13, 0, 0)])
def mCo_init : ri_M := (0, ⟨"Striping$Columns", "<init>", "(I)V"⟩, prog_2_method_1_code, 3, (none), [(0, .aload_n 0, 1, 0, 0), (1, .invokespecial 3, 4, 0, 0), (4, .iload_n 1, 5, 0, 0), (5, .iconst 0, 6, 0, 0), (6, .invokestatic 9, 9, 0, 0), (9, .istore_n 2, 10, 0, 0), (10, .aload_n 0, 11, 0, 0), (11, .iload_n 2, 12, 0, 0), (12, .newarray .int, 14, 0, 0), (14, .putfield 15, 17, 0, 0), (17, .aload_n 0, 18, 0, 0), (18, .iload_n 2, 19, 0, 0), (19, .bipush 24, 21, 0, 24), (21, .multianewarray 21 2, 25, 0, 0), (25, .putfield 23, 28, 0, 0), (28, .return_, 29, 0, 0)])
def mSt_field : ri_M := (4, ⟨"Striping", "field", "(IIZ)I"⟩, prog_1_method_2_code, 4, (some .int), [(0, .aload_n 0, 1, 0, 0), (1, .getfield 10, 4, 0, 0), (4, .iload_n 1, 5, 0, 0), (5, .iload_n 2, 6, 0, 0), (6, .iload_n 3, 7, 0, 0), (7, .invokevirtual 43, 10, 0, 0), (10, .ireturn, 11, 0, 0)])
def mSc_add : ri_M := (3, ⟨"Striping$Schema", "add", "(IIZ)I"⟩, prog_5_method_2_code, 5, (some .int), [(0, .aload_n 0, 1, 0, 0), (1, .getfield 37, 4, 0, 0), (4, .ifCond .ne 21, 7, 25, 0), (7, .aload_n 0, 8, 0, 0), (8, .getfield 41, 11, 0, 0), (11, .bipush 48, 13, 0, 48), (13, .if_icmp .ge 12, 16, 25, 0), (16, .iload_n 2, 17, 0, 0), (17, .ifCond .lt 8, 20, 25, 0), (20, .iload_n 2, 21, 0, 0), (21, .iconst 2, 22, 0, 2), (22, .if_icmp .le 5, 25, 27, 0), (25, .iconst (-1), 26, 0, -1), (26, .ireturn, 27, 0, 0), (27, .aload_n 0, 28, 0, 0), (28, .iload_n 1, 29, 0, 0), (29, .invokevirtual 45, 32, 0, 0), (32, .ifCond .ne 5, 35, 37, 0), (35, .iconst (-1), 36, 0, -1), (36, .ireturn, 37, 0, 0), (37, .aload_n 0, 38, 0, 0), (38, .getfield 41, 41, 0, 0), (41, .istore 4, 43, 0, 0), (43, .aload_n 0, 44, 0, 0), (44, .getfield 9, 47, 0, 0), (47, .iload 4, 49, 0, 0), (49, .iload_n 1, 50, 0, 0), (50, .iastore, 51, 0, 0), (51, .aload_n 0, 52, 0, 0), (52, .getfield 15, 55, 0, 0), (55, .iload 4, 57, 0, 0), (57, .iload_n 2, 58, 0, 0), (58, .iastore, 59, 0, 0), (59, .aload_n 0, 60, 0, 0), (60, .getfield 18, 63, 0, 0), (63, .iload 4, 65, 0, 0), (65, .aload_n 0, 66, 0, 0), (66, .iload_n 1, 67, 0, 0), (67, .invokevirtual 49, 70, 0, 0), (70, .iconst 1, 71, 0, 1), (71, .iadd, 72, 0, 0), (72, .iastore, 73, 0, 0), (73, .aload_n 0, 74, 0, 0), (74, .getfield 21, 77, 0, 0), (77, .iload 4, 79, 0, 0), (79, .aload_n 0, 80, 0, 0), (80, .iload_n 1, 81, 0, 0), (81, .invokevirtual 53, 84, 0, 0), (84, .iload_n 2, 85, 0, 0), (85, .iconst 2, 86, 0, 2), (86, .if_icmp .ne 7, 89, 93, 0), (89, .iconst 1, 90, 0, 1), (90, .goto 4, 93, 94, 0), (93, .iconst 0, 94, 0, 0), (94, .iadd, 95, 0, 0), (95, .iastore, 96, 0, 0), (96, .aload_n 0, 97, 0, 0), (97, .getfield 24, 100, 0, 0), (100, .iload 4, 102, 0, 0), (102, .aload_n 0, 103, 0, 0), (103, .iload_n 1, 104, 0, 0), (104, .invokevirtual 56, 107, 0, 0), (107, .iload_n 2, 108, 0, 0), (108, .ifCond .ne 7, 111, 115, 0), (111, .iconst 0, 112, 0, 0), (112, .goto 4, 115, 116, 0), (115, .iconst 1, 116, 0, 1), (116, .iadd, 117, 0, 0), (117, .iastore, 118, 0, 0), (118, .aload_n 0, 119, 0, 0), (119, .getfield 27, 122, 0, 0), (122, .iload 4, 124, 0, 0), (124, .iload_n 3, 125, 0, 0), (125, .ifCond .eq 7, 128, 132, 0), (128, .iconst (-1), 129, 0, -1), (129, .goto 7, 132, 136, 0), (132, .aload_n 0, 133, 0, 0), (133, .getfield 59, 136, 0, 0), (136, .iastore, 137, 0, 0), (137, .aload_n 0, 138, 0, 0), (138, .dup, 139, 0, 0), (139, .getfield 41, 142, 0, 0), (142, .iconst 1, 143, 0, 1), (143, .iadd, 144, 0, 0), (144, .putfield 41, 147, 0, 0), (147, .aload_n 0, 148, 0, 0), (148, .iload 4, 150, 0, 0), (150, .iload_n 3, 151, 0, 0), (151, .ifCond .eq 7, 154, 158, 0), (154, .lconst 0, 155, 0, 0), (155, .goto 9, 158, 164, 0), (158, .lconst 1, 159, 0, 0), (159, .aload_n 0, 160, 0, 0), (160, .getfield 59, 163, 0, 0), (163, .lshl, 164, 0, 0), (164, .invokevirtual 62, 167, 0, 0), (167, .iload_n 3, 168, 0, 0), (168, .ifCond .ne 13, 171, 181, 0), (171, .aload_n 0, 172, 0, 0), (172, .dup, 173, 0, 0), (173, .getfield 59, 176, 0, 0), (176, .iconst 1, 177, 0, 1), (177, .iadd, 178, 0, 0), (178, .putfield 59, 181, 0, 0), (181, .iload 4, 183, 0, 0), (183, .ireturn, 184, 0, 0)])
def mSc_mayHold : ri_M := (3, ⟨"Striping$Schema", "mayHold", "(I)Z"⟩, prog_5_method_3_code, 2, (some .boolean), [(0, .iload_n 1, 1, 0, 0), (1, .iconst (-1), 2, 0, -1), (2, .if_icmp .ne 5, 5, 7, 0), (5, .iconst 1, 6, 0, 1), (6, .ireturn, 7, 0, 0), (7, .aload_n 0, 8, 0, 0), (8, .iload_n 1, 9, 0, 0), (9, .invokevirtual 66, 12, 0, 0), (12, .ifCond .eq 31, 15, 43, 0), (15, .aload_n 0, 16, 0, 0), (16, .getfield 30, 19, 0, 0), (19, .iload_n 1, 20, 0, 0), (20, .iaload, 21, 0, 0), (21, .aload_n 0, 22, 0, 0), (22, .getfield 41, 25, 0, 0), (25, .if_icmp .ne 18, 28, 43, 0), (28, .aload_n 0, 29, 0, 0), (29, .getfield 18, 32, 0, 0), (32, .iload_n 1, 33, 0, 0), (33, .iaload, 34, 0, 0), (34, .bipush 16, 36, 0, 16), (36, .if_icmp .ge 7, 39, 43, 0), (39, .iconst 1, 40, 0, 1), (40, .goto 4, 43, 44, 0), (43, .iconst 0, 44, 0, 0), (44, .ireturn, 45, 0, 0)])
def mSc_isGroup : ri_M := (3, ⟨"Striping$Schema", "isGroup", "(I)Z"⟩, prog_5_method_8_code, 2, (some .boolean), [(0, .aload_n 0, 1, 0, 0), (1, .iload_n 1, 2, 0, 0), (2, .invokevirtual 69, 5, 0, 0), (5, .ifCond .eq 17, 8, 22, 0), (8, .aload_n 0, 9, 0, 0), (9, .getfield 27, 12, 0, 0), (12, .iload_n 1, 13, 0, 0), (13, .iaload, 14, 0, 0), (14, .iconst (-1), 15, 0, -1), (15, .if_icmp .ne 7, 18, 22, 0), (18, .iconst 1, 19, 0, 1), (19, .goto 4, 22, 23, 0), (22, .iconst 0, 23, 0, 0), (23, .ireturn, 24, 0, 0)])
def mSc_has : ri_M := (3, ⟨"Striping$Schema", "has", "(I)Z"⟩, prog_5_method_7_code, 2, (some .boolean), [(0, .iload_n 1, 1, 0, 0), (1, .ifCond .lt 15, 4, 16, 0), (4, .iload_n 1, 5, 0, 0), (5, .aload_n 0, 6, 0, 0), (6, .getfield 41, 9, 0, 0), (9, .if_icmp .ge 7, 12, 16, 0), (12, .iconst 1, 13, 0, 1), (13, .goto 4, 16, 17, 0), (16, .iconst 0, 17, 0, 0), (17, .ireturn, 18, 0, 0)])
def mSc_depthOf : ri_M := (3, ⟨"Striping$Schema", "depthOf", "(I)I"⟩, prog_5_method_12_code, 2, (some .int), [(0, .aload_n 0, 1, 0, 0), (1, .iload_n 1, 2, 0, 0), (2, .invokevirtual 69, 5, 0, 0), (5, .ifCond .eq 12, 8, 17, 0), (8, .aload_n 0, 9, 0, 0), (9, .getfield 18, 12, 0, 0), (12, .iload_n 1, 13, 0, 0), (13, .iaload, 14, 0, 0), (14, .goto 4, 17, 18, 0), (17, .iconst 0, 18, 0, 0), (18, .ireturn, 19, 0, 0)])
def mSc_repetitionOf : ri_M := (3, ⟨"Striping$Schema", "repetitionOf", "(I)I"⟩, prog_5_method_13_code, 2, (some .int), [(0, .aload_n 0, 1, 0, 0), (1, .iload_n 1, 2, 0, 0), (2, .invokevirtual 69, 5, 0, 0), (5, .ifCond .eq 12, 8, 17, 0), (8, .aload_n 0, 9, 0, 0), (9, .getfield 21, 12, 0, 0), (12, .iload_n 1, 13, 0, 0), (13, .iaload, 14, 0, 0), (14, .goto 4, 17, 18, 0), (17, .iconst 0, 18, 0, 0), (18, .ireturn, 19, 0, 0)])
def mSc_definitionOf : ri_M := (3, ⟨"Striping$Schema", "definitionOf", "(I)I"⟩, prog_5_method_14_code, 2, (some .int), [(0, .aload_n 0, 1, 0, 0), (1, .iload_n 1, 2, 0, 0), (2, .invokevirtual 69, 5, 0, 0), (5, .ifCond .eq 12, 8, 17, 0), (8, .aload_n 0, 9, 0, 0), (9, .getfield 24, 12, 0, 0), (12, .iload_n 1, 13, 0, 0), (13, .iaload, 14, 0, 0), (14, .goto 4, 17, 18, 0), (17, .iconst 0, 18, 0, 0), (18, .ireturn, 19, 0, 0)])
def mSc_stretch : ri_M := (3, ⟨"Striping$Schema", "stretch", "(IJ)V"⟩, prog_5_method_4_code, 6, (none), [(0, .iload_n 1, 1, 0, 0), (1, .istore 4, 3, 0, 0), (3, .iconst 0, 4, 0, 0), (4, .istore 5, 6, 0, 0), (6, .iload 5, 8, 0, 0), (8, .bipush 16, 10, 0, 16), (10, .if_icmp .ge 48, 13, 58, 0), (13, .aload_n 0, 14, 0, 0), (14, .iload 4, 16, 0, 0), (16, .invokevirtual 69, 19, 0, 0), (19, .ifCond .eq 39, 22, 58, 0), (22, .aload_n 0, 23, 0, 0), (23, .getfield 30, 26, 0, 0), (26, .iload 4, 28, 0, 0), (28, .iload_n 1, 29, 0, 0), (29, .iconst 1, 30, 0, 1), (30, .iadd, 31, 0, 0), (31, .iastore, 32, 0, 0), (32, .aload_n 0, 33, 0, 0), (33, .getfield 33, 36, 0, 0), (36, .iload 4, 38, 0, 0), (38, .dup2, 39, 0, 0), (39, .laload, 40, 0, 0), (40, .lload_n 2, 41, 0, 0), (41, .lor, 42, 0, 0), (42, .lastore, 43, 0, 0), (43, .aload_n 0, 44, 0, 0), (44, .getfield 9, 47, 0, 0), (47, .iload 4, 49, 0, 0), (49, .iaload, 50, 0, 0), (50, .istore 4, 52, 0, 0), (52, .iinc 5 1, 55, 0, 1), (55, .goto (-49), 58, 6, 0), (58, .return_, 59, 0, 0)])
def mSt_ready : ri_M := (4, ⟨"Striping", "ready", "()I"⟩, prog_1_method_3_code, 1, (some .int), [(0, .aload_n 0, 1, 0, 0), (1, .getfield 10, 4, 0, 0), (4, .invokevirtual 47, 7, 0, 0), (7, .ifCond .ne 5, 10, 12, 0), (10, .iconst (-1), 11, 0, -1), (11, .ireturn, 12, 0, 0), (12, .aload_n 0, 13, 0, 0), (13, .new 34, 16, 0, 0), (16, .dup, 17, 0, 0), (17, .aload_n 0, 18, 0, 0), (18, .getfield 10, 21, 0, 0), (21, .getfield 51, 24, 0, 0), (24, .invokespecial 36, 27, 0, 0), (27, .putfield 39, 30, 0, 0), (30, .aload_n 0, 31, 0, 0), (31, .getfield 10, 34, 0, 0), (34, .getfield 51, 37, 0, 0), (37, .ireturn, 38, 0, 0)])
def mSc_settle : ri_M := (3, ⟨"Striping$Schema", "settle", "()Z"⟩, prog_5_method_5_code, 2, (some .boolean), [(0, .aload_n 0, 1, 0, 0), (1, .getfield 37, 4, 0, 0), (4, .ifCond .ne 10, 7, 14, 0), (7, .aload_n 0, 8, 0, 0), (8, .getfield 41, 11, 0, 0), (11, .ifCond .ne 5, 14, 16, 0), (14, .iconst 0, 15, 0, 0), (15, .ireturn, 16, 0, 0), (16, .iconst 0, 17, 0, 0), (17, .istore_n 1, 18, 0, 0), (18, .iload_n 1, 19, 0, 0), (19, .aload_n 0, 20, 0, 0), (20, .getfield 41, 23, 0, 0), (23, .if_icmp .ge 31, 26, 54, 0), (26, .aload_n 0, 27, 0, 0), (27, .iload_n 1, 28, 0, 0), (28, .invokevirtual 66, 31, 0, 0), (31, .ifCond .eq 17, 34, 48, 0), (34, .aload_n 0, 35, 0, 0), (35, .getfield 30, 38, 0, 0), (38, .iload_n 1, 39, 0, 0), (39, .iaload, 40, 0, 0), (40, .iload_n 1, 41, 0, 0), (41, .iconst 1, 42, 0, 1), (42, .iadd, 43, 0, 0), (43, .if_icmp .ne 5, 46, 48, 0), (46, .iconst 0, 47, 0, 0), (47, .ireturn, 48, 0, 0), (48, .iinc 1 1, 51, 0, 1), (51, .goto (-33), 54, 18, 0), (54, .aload_n 0, 55, 0, 0), (55, .iconst 1, 56, 0, 1), (56, .putfield 37, 59, 0, 0), (59, .iconst 1, 60, 0, 1), (60, .ireturn, 61, 0, 0)])
def mSt_begin : ri_M := (4, ⟨"Striping", "begin", "()Z"⟩, prog_1_method_4_code, 1, (some .boolean), [(0, .aload_n 0, 1, 0, 0), (1, .getfield 10, 4, 0, 0), (4, .getfield 55, 7, 0, 0), (7, .ifCond .eq 23, 10, 30, 0), (10, .aload_n 0, 11, 0, 0), (11, .getfield 19, 14, 0, 0), (14, .getfield 59, 17, 0, 0), (17, .ifCond .ne 13, 20, 30, 0), (20, .aload_n 0, 21, 0, 0), (21, .getfield 62, 24, 0, 0), (24, .sipush 128, 27, 0, 128), (27, .if_icmp .lt 5, 30, 32, 0), (30, .iconst 0, 31, 0, 0), (31, .ireturn, 32, 0, 0), (32, .aload_n 0, 33, 0, 0), (33, .getfield 19, 36, 0, 0), (36, .invokevirtual 65, 39, 0, 0), (39, .iconst 1, 40, 0, 1), (40, .ireturn, 41, 0, 0)])
def mDr_start : ri_M := (1, ⟨"Striping$Draft", "start", "()V"⟩, prog_3_method_2_code, 1, (none), [(0, .aload_n 0, 1, 0, 0), (1, .invokevirtual 24, 4, 0, 0), (4, .aload_n 0, 5, 0, 0), (5, .iconst 1, 6, 0, 1), (6, .putfield 27, 9, 0, 0), (9, .aload_n 0, 10, 0, 0), (10, .getfield 9, 13, 0, 0), (13, .iconst 0, 14, 0, 0), (14, .iconst (-1), 15, 0, -1), (15, .iastore, 16, 0, 0), (16, .aload_n 0, 17, 0, 0), (17, .getfield 15, 20, 0, 0), (20, .iconst 0, 21, 0, 0), (21, .iconst (-1), 22, 0, -1), (22, .iastore, 23, 0, 0), (23, .return_, 24, 0, 0)])
def mDr_clear : ri_M := (1, ⟨"Striping$Draft", "clear", "()V"⟩, prog_3_method_3_code, 1, (none), [(0, .aload_n 0, 1, 0, 0), (1, .iconst 0, 2, 0, 0), (2, .putfield 27, 5, 0, 0), (5, .aload_n 0, 6, 0, 0), (6, .iconst 0, 7, 0, 0), (7, .putfield 31, 10, 0, 0), (10, .aload_n 0, 11, 0, 0), (11, .iconst 0, 12, 0, 0), (12, .putfield 35, 15, 0, 0), (15, .return_, 16, 0, 0)])
def mSt_open : ri_M := (4, ⟨"Striping", "open", "(I)Z"⟩, prog_1_method_5_code, 2, (some .boolean), [(0, .aload_n 0, 1, 0, 0), (1, .getfield 10, 4, 0, 0), (4, .iload_n 1, 5, 0, 0), (5, .invokevirtual 68, 8, 0, 0), (8, .ifCond .eq 11, 11, 19, 0), (11, .aload_n 0, 12, 0, 0), (12, .iload_n 1, 13, 0, 0), (13, .invokevirtual 72, 16, 0, 0), (16, .ifCond .ne 5, 19, 21, 0), (19, .iconst 0, 20, 0, 0), (20, .ireturn, 21, 0, 0), (21, .aload_n 0, 22, 0, 0), (22, .getfield 19, 25, 0, 0), (25, .iload_n 1, 26, 0, 0), (26, .iconst 0, 27, 0, 0), (27, .invokevirtual 75, 30, 0, 0), (30, .aload_n 0, 31, 0, 0), (31, .getfield 19, 34, 0, 0), (34, .iload_n 1, 35, 0, 0), (35, .invokevirtual 78, 38, 0, 0), (38, .iconst 1, 39, 0, 1), (39, .ireturn, 40, 0, 0)])
def mSt_mayCome : ri_M := (4, ⟨"Striping", "mayCome", "(I)Z"⟩, prog_1_method_15_code, 3, (some .boolean), [(0, .aload_n 0, 1, 0, 0), (1, .getfield 19, 4, 0, 0), (4, .getfield 59, 7, 0, 0), (7, .ifCond .eq 21, 10, 28, 0), (10, .aload_n 0, 11, 0, 0), (11, .getfield 10, 14, 0, 0), (14, .iload_n 1, 15, 0, 0), (15, .invokevirtual 151, 18, 0, 0), (18, .aload_n 0, 19, 0, 0), (19, .getfield 19, 22, 0, 0), (22, .invokevirtual 84, 25, 0, 0), (25, .if_icmp .eq 5, 28, 30, 0), (28, .iconst 0, 29, 0, 0), (29, .ireturn, 30, 0, 0), (30, .aload_n 0, 31, 0, 0), (31, .getfield 154, 34, 0, 0), (34, .aload_n 0, 35, 0, 0), (35, .getfield 19, 38, 0, 0), (38, .getfield 157, 41, 0, 0), (41, .iadd, 42, 0, 0), (42, .sipush 2048, 45, 0, 2048), (45, .if_icmp .lt 5, 48, 50, 0), (48, .iconst 0, 49, 0, 0), (49, .ireturn, 50, 0, 0), (50, .aload_n 0, 51, 0, 0), (51, .getfield 19, 54, 0, 0), (54, .invokevirtual 88, 57, 0, 0), (57, .istore_n 2, 58, 0, 0), (58, .iload_n 1, 59, 0, 0), (59, .iload_n 2, 60, 0, 0), (60, .if_icmp .lt 20, 63, 80, 0), (63, .iload_n 1, 64, 0, 0), (64, .iload_n 2, 65, 0, 0), (65, .if_icmp .ne 17, 68, 82, 0), (68, .aload_n 0, 69, 0, 0), (69, .getfield 10, 72, 0, 0), (72, .iload_n 1, 73, 0, 0), (73, .invokevirtual 158, 76, 0, 0), (76, .iconst 2, 77, 0, 2), (77, .if_icmp .eq 5, 80, 82, 0), (80, .iconst 0, 81, 0, 0), (81, .ireturn, 82, 0, 0), (82, .aload_n 0, 83, 0, 0), (83, .getfield 10, 86, 0, 0), (86, .aload_n 0, 87, 0, 0), (87, .getfield 19, 90, 0, 0), (90, .invokevirtual 84, 93, 0, 0), (93, .iload_n 2, 94, 0, 0), (94, .iconst 1, 95, 0, 1), (95, .iadd, 96, 0, 0), (96, .iload_n 1, 97, 0, 0), (97, .invokevirtual 95, 100, 0, 0), (100, .ifCond .ne 7, 103, 107, 0), (103, .iconst 1, 104, 0, 1), (104, .goto 4, 107, 108, 0), (107, .iconst 0, 108, 0, 0), (108, .ireturn, 109, 0, 0)])
def mSc_parentOf : ri_M := (3, ⟨"Striping$Schema", "parentOf", "(I)I"⟩, prog_5_method_10_code, 2, (some .int), [(0, .aload_n 0, 1, 0, 0), (1, .iload_n 1, 2, 0, 0), (2, .invokevirtual 69, 5, 0, 0), (5, .ifCond .eq 12, 8, 17, 0), (8, .aload_n 0, 9, 0, 0), (9, .getfield 9, 12, 0, 0), (12, .iload_n 1, 13, 0, 0), (13, .iaload, 14, 0, 0), (14, .goto 4, 17, 18, 0), (17, .iconst (-1), 18, 0, -1), (18, .ireturn, 19, 0, 0)])
def mDr_group : ri_M := (1, ⟨"Striping$Draft", "group", "()I"⟩, prog_3_method_7_code, 1, (some .int), [(0, .aload_n 0, 1, 0, 0), (1, .getfield 9, 4, 0, 0), (4, .aload_n 0, 5, 0, 0), (5, .getfield 35, 8, 0, 0), (8, .iaload, 9, 0, 0), (9, .ireturn, 10, 0, 0)])
def mDr_newest : ri_M := (1, ⟨"Striping$Draft", "newest", "()I"⟩, prog_3_method_8_code, 1, (some .int), [(0, .aload_n 0, 1, 0, 0), (1, .getfield 15, 4, 0, 0), (4, .aload_n 0, 5, 0, 0), (5, .getfield 35, 8, 0, 0), (8, .iaload, 9, 0, 0), (9, .ireturn, 10, 0, 0)])
def mSc_kindOf : ri_M := (3, ⟨"Striping$Schema", "kindOf", "(I)I"⟩, prog_5_method_11_code, 2, (some .int), [(0, .aload_n 0, 1, 0, 0), (1, .iload_n 1, 2, 0, 0), (2, .invokevirtual 69, 5, 0, 0), (5, .ifCond .eq 12, 8, 17, 0), (8, .aload_n 0, 9, 0, 0), (9, .getfield 15, 12, 0, 0), (12, .iload_n 1, 13, 0, 0), (13, .iaload, 14, 0, 0), (14, .goto 4, 17, 18, 0), (17, .iconst (-1), 18, 0, -1), (18, .ireturn, 19, 0, 0)])
def mSc_requires : ri_M := (3, ⟨"Striping$Schema", "requires", "(III)Z"⟩, prog_5_method_6_code, 5, (some .boolean), [(0, .iload_n 2, 1, 0, 0), (1, .iconst 0, 2, 0, 0), (2, .invokestatic 72, 5, 0, 0), (5, .istore 4, 7, 0, 0), (7, .iload 4, 9, 0, 0), (9, .iload_n 3, 10, 0, 0), (10, .if_icmp .ge 41, 13, 51, 0), (13, .iload 4, 15, 0, 0), (15, .aload_n 0, 16, 0, 0), (16, .getfield 41, 19, 0, 0), (19, .if_icmp .ge 32, 22, 51, 0), (22, .aload_n 0, 23, 0, 0), (23, .getfield 9, 26, 0, 0), (26, .iload 4, 28, 0, 0), (28, .iaload, 29, 0, 0), (29, .iload_n 1, 30, 0, 0), (30, .if_icmp .ne 15, 33, 45, 0), (33, .aload_n 0, 34, 0, 0), (34, .getfield 15, 37, 0, 0), (37, .iload 4, 39, 0, 0), (39, .iaload, 40, 0, 0), (40, .ifCond .ne 5, 43, 45, 0), (43, .iconst 1, 44, 0, 1), (44, .ireturn, 45, 0, 0), (45, .iinc 4 1, 48, 0, 1), (48, .goto (-41), 51, 7, 0), (51, .iconst 0, 52, 0, 0), (52, .ireturn, 53, 0, 0)])
def mDr_add : ri_M := (1, ⟨"Striping$Draft", "add", "(II)V"⟩, prog_3_method_4_code, 3, (none), [(0, .aload_n 0, 1, 0, 0), (1, .getfield 31, 4, 0, 0), (4, .sipush 2048, 7, 0, 2048), (7, .if_icmp .lt 4, 10, 11, 0), (10, .return_, 11, 0, 0), (11, .aload_n 0, 12, 0, 0), (12, .aload_n 0, 13, 0, 0), (13, .getfield 18, 16, 0, 0), (16, .aload_n 0, 17, 0, 0), (17, .getfield 31, 20, 0, 0), (20, .iconst 1, 21, 0, 1), (21, .iadd, 22, 0, 0), (22, .invokestatic 38, 25, 0, 0), (25, .putfield 18, 28, 0, 0), (28, .aload_n 0, 29, 0, 0), (29, .aload_n 0, 30, 0, 0), (30, .getfield 21, 33, 0, 0), (33, .aload_n 0, 34, 0, 0), (34, .getfield 31, 37, 0, 0), (37, .iconst 1, 38, 0, 1), (38, .iadd, 39, 0, 0), (39, .invokestatic 38, 42, 0, 0), (42, .putfield 21, 45, 0, 0), (45, .aload_n 0, 46, 0, 0), (46, .getfield 18, 49, 0, 0), (49, .aload_n 0, 50, 0, 0), (50, .getfield 31, 53, 0, 0), (53, .iload_n 1, 54, 0, 0), (54, .iastore, 55, 0, 0), (55, .aload_n 0, 56, 0, 0), (56, .getfield 21, 59, 0, 0), (59, .aload_n 0, 60, 0, 0), (60, .getfield 31, 63, 0, 0), (63, .iload_n 2, 64, 0, 0), (64, .iastore, 65, 0, 0), (65, .aload_n 0, 66, 0, 0), (66, .dup, 67, 0, 0), (67, .getfield 31, 70, 0, 0), (70, .iconst 1, 71, 0, 1), (71, .iadd, 72, 0, 0), (72, .putfield 31, 75, 0, 0), (75, .aload_n 0, 76, 0, 0), (76, .getfield 15, 79, 0, 0), (79, .aload_n 0, 80, 0, 0), (80, .getfield 35, 83, 0, 0), (83, .iload_n 1, 84, 0, 0), (84, .iastore, 85, 0, 0), (85, .return_, 86, 0, 0)])
def mSt_withRoom : ri_M := (4, ⟨"Striping", "withRoom", "([II)[I"⟩, prog_1_method_32_code, 2, (some (.array .int)), [(0, .iload_n 1, 1, 0, 0), (1, .aload_n 0, 2, 0, 0), (2, .arraylength, 3, 0, 0), (3, .if_icmp .gt 7, 6, 10, 0), (6, .aload_n 0, 7, 0, 0), (7, .goto 15, 10, 22, 0), (10, .aload_n 0, 11, 0, 0), (11, .iload_n 1, 12, 0, 0), (12, .iconst 2, 13, 0, 2), (13, .aload_n 0, 14, 0, 0), (14, .arraylength, 15, 0, 0), (15, .imul, 16, 0, 0), (16, .invokestatic 225, 19, 0, 0), (19, .invokestatic 230, 22, 0, 0), (22, .areturn, 23, 0, 0)])
def mAr_copyOf : ri_M := (7, ⟨"java/util/Arrays", "copyOf", "([II)[I"⟩, prog_11_method_123_code, 3, (some (.array .int)), [(0, .iload_n 1, 1, 0, 0), (1, .aload_n 0, 2, 0, 0), (2, .arraylength, 3, 0, 0), (3, .if_icmp .ne 11, 6, 14, 0), (6, .aload_n 0, 7, 0, 0), (7, .invokevirtual 316, 10, 0, 0), (10, .checkcast 317, 13, 0, 0), (13, .areturn, 14, 0, 0), (14, .iload_n 1, 15, 0, 0), (15, .newarray .int, 17, 0, 0), (17, .astore_n 2, 18, 0, 0), (18, .aload_n 0, 19, 0, 0), (19, .iconst 0, 20, 0, 0), (20, .aload_n 2, 21, 0, 0), (21, .iconst 0, 22, 0, 0), (22, .aload_n 0, 23, 0, 0), (23, .arraylength, 24, 0, 0), (24, .iload_n 1, 25, 0, 0), (25, .invokestatic 304, 28, 0, 0), (28, .invokestatic 150, 31, 0, 0), (31, .aload_n 2, 32, 0, 0), (32, .areturn, 33, 0, 0)])
def mDr_enter : ri_M := (1, ⟨"Striping$Draft", "enter", "(I)V"⟩, prog_3_method_5_code, 2, (none), [(0, .aload_n 0, 1, 0, 0), (1, .getfield 35, 4, 0, 0), (4, .bipush 16, 6, 0, 16), (6, .if_icmp .lt 4, 9, 10, 0), (9, .return_, 10, 0, 0), (10, .aload_n 0, 11, 0, 0), (11, .dup, 12, 0, 0), (12, .getfield 35, 15, 0, 0), (15, .iconst 1, 16, 0, 1), (16, .iadd, 17, 0, 0), (17, .putfield 35, 20, 0, 0), (20, .aload_n 0, 21, 0, 0), (21, .getfield 9, 24, 0, 0), (24, .aload_n 0, 25, 0, 0), (25, .getfield 35, 28, 0, 0), (28, .iload_n 1, 29, 0, 0), (29, .iastore, 30, 0, 0), (30, .aload_n 0, 31, 0, 0), (31, .getfield 15, 34, 0, 0), (34, .aload_n 0, 35, 0, 0), (35, .getfield 35, 38, 0, 0), (38, .iconst (-1), 39, 0, -1), (39, .iastore, 40, 0, 0), (40, .return_, 41, 0, 0)])
def mSt_leaf : ri_M := (4, ⟨"Striping", "leaf", "(II)Z"⟩, prog_1_method_6_code, 3, (some .boolean), [(0, .aload_n 0, 1, 0, 0), (1, .getfield 10, 4, 0, 0), (4, .iload_n 1, 5, 0, 0), (5, .invokevirtual 81, 8, 0, 0), (8, .ifCond .eq 11, 11, 19, 0), (11, .aload_n 0, 12, 0, 0), (12, .iload_n 1, 13, 0, 0), (13, .invokevirtual 72, 16, 0, 0), (16, .ifCond .ne 5, 19, 21, 0), (19, .iconst 0, 20, 0, 0), (20, .ireturn, 21, 0, 0), (21, .aload_n 0, 22, 0, 0), (22, .getfield 19, 25, 0, 0), (25, .iload_n 1, 26, 0, 0), (26, .iload_n 2, 27, 0, 0), (27, .invokevirtual 75, 30, 0, 0), (30, .iconst 1, 31, 0, 1), (31, .ireturn, 32, 0, 0)])
def mSc_isLeaf : ri_M := (3, ⟨"Striping$Schema", "isLeaf", "(I)Z"⟩, prog_5_method_9_code, 2, (some .boolean), [(0, .aload_n 0, 1, 0, 0), (1, .iload_n 1, 2, 0, 0), (2, .invokevirtual 69, 5, 0, 0), (5, .ifCond .eq 17, 8, 22, 0), (8, .aload_n 0, 9, 0, 0), (9, .getfield 27, 12, 0, 0), (12, .iload_n 1, 13, 0, 0), (13, .iaload, 14, 0, 0), (14, .iconst (-1), 15, 0, -1), (15, .if_icmp .eq 7, 18, 22, 0), (18, .iconst 1, 19, 0, 1), (19, .goto 4, 22, 23, 0), (22, .iconst 0, 23, 0, 0), (23, .ireturn, 24, 0, 0)])
def mSt_close : ri_M := (4, ⟨"Striping", "close", "()Z"⟩, prog_1_method_7_code, 2, (some .boolean), [(0, .aload_n 0, 1, 0, 0), (1, .getfield 19, 4, 0, 0), (4, .getfield 59, 7, 0, 0), (7, .ifCond .ne 5, 10, 12, 0), (10, .iconst 0, 11, 0, 0), (11, .ireturn, 12, 0, 0), (12, .aload_n 0, 13, 0, 0), (13, .getfield 19, 16, 0, 0), (16, .invokevirtual 84, 19, 0, 0), (19, .istore_n 1, 20, 0, 0), (20, .aload_n 0, 21, 0, 0), (21, .getfield 10, 24, 0, 0), (24, .iload_n 1, 25, 0, 0), (25, .aload_n 0, 26, 0, 0), (26, .getfield 19, 29, 0, 0), (29, .invokevirtual 88, 32, 0, 0), (32, .iconst 1, 33, 0, 1), (33, .iadd, 34, 0, 0), (34, .aload_n 0, 35, 0, 0), (35, .getfield 10, 38, 0, 0), (38, .iload_n 1, 39, 0, 0), (39, .invokevirtual 91, 42, 0, 0), (42, .invokevirtual 95, 45, 0, 0), (45, .ifCond .eq 5, 48, 50, 0), (48, .iconst 0, 49, 0, 0), (49, .ireturn, 50, 0, 0), (50, .aload_n 0, 51, 0, 0), (51, .getfield 19, 54, 0, 0), (54, .getfield 99, 57, 0, 0), (57, .ifCond .le 13, 60, 70, 0), (60, .aload_n 0, 61, 0, 0), (61, .getfield 19, 64, 0, 0), (64, .invokevirtual 102, 67, 0, 0), (67, .goto 7, 70, 74, 0), (70, .aload_n 0, 71, 0, 0), (71, .invokevirtual 105, 74, 0, 0), (74, .iconst 1, 75, 0, 1), (75, .ireturn, 76, 0, 0)])
def mSc_endOf : ri_M := (3, ⟨"Striping$Schema", "endOf", "(I)I"⟩, prog_5_method_16_code, 2, (some .int), [(0, .aload_n 0, 1, 0, 0), (1, .iload_n 1, 2, 0, 0), (2, .invokevirtual 69, 5, 0, 0), (5, .ifCond .eq 12, 8, 17, 0), (8, .aload_n 0, 9, 0, 0), (9, .getfield 30, 12, 0, 0), (12, .iload_n 1, 13, 0, 0), (13, .iaload, 14, 0, 0), (14, .goto 7, 17, 21, 0), (17, .aload_n 0, 18, 0, 0), (18, .getfield 41, 21, 0, 0), (21, .ireturn, 22, 0, 0)])
def mDr_leave : ri_M := (1, ⟨"Striping$Draft", "leave", "()V"⟩, prog_3_method_6_code, 1, (none), [(0, .aload_n 0, 1, 0, 0), (1, .getfield 35, 4, 0, 0), (4, .ifCond .le 13, 7, 17, 0), (7, .aload_n 0, 8, 0, 0), (8, .dup, 9, 0, 0), (9, .getfield 35, 12, 0, 0), (12, .iconst 1, 13, 0, 1), (13, .isub, 14, 0, 0), (14, .putfield 35, 17, 0, 0), (17, .return_, 18, 0, 0)])
def mSt_keepRecord : ri_M := (4, ⟨"Striping", "keepRecord", "()V"⟩, prog_1_method_16_code, 1, (none), [(0, .aload_n 0, 1, 0, 0), (1, .iconst 0, 2, 0, 0), (2, .putfield 161, 5, 0, 0), (5, .aload_n 0, 6, 0, 0), (6, .iconst (-1), 7, 0, -1), (7, .iconst 0, 8, 0, 0), (8, .iconst 0, 9, 0, 0), (9, .invokevirtual 164, 12, 0, 0), (12, .aload_n 0, 13, 0, 0), (13, .dup, 14, 0, 0), (14, .getfield 62, 17, 0, 0), (17, .iconst 1, 18, 0, 1), (18, .iadd, 19, 0, 0), (19, .putfield 62, 22, 0, 0), (22, .aload_n 0, 23, 0, 0), (23, .dup, 24, 0, 0), (24, .getfield 154, 27, 0, 0), (27, .aload_n 0, 28, 0, 0), (28, .getfield 19, 31, 0, 0), (31, .getfield 157, 34, 0, 0), (34, .iadd, 35, 0, 0), (35, .putfield 154, 38, 0, 0), (38, .aload_n 0, 39, 0, 0), (39, .getfield 19, 42, 0, 0), (42, .invokevirtual 108, 45, 0, 0), (45, .return_, 46, 0, 0)])
def mSt_takeFields : ri_M := (4, ⟨"Striping", "takeFields", "(III)V"⟩, prog_1_method_17_code, 6, (none), [(0, .iload_n 3, 1, 0, 0), (1, .bipush 16, 3, 0, 16), (3, .if_icmp .lt 4, 6, 7, 0), (6, .return_, 7, 0, 0), (7, .aload_n 0, 8, 0, 0), (8, .getfield 10, 11, 0, 0), (11, .iload_n 1, 12, 0, 0), (12, .invokevirtual 91, 15, 0, 0), (15, .istore 4, 17, 0, 0), (17, .iload_n 1, 18, 0, 0), (18, .iconst 1, 19, 0, 1), (19, .iadd, 20, 0, 0), (20, .istore 5, 22, 0, 0), (22, .iload 5, 24, 0, 0), (24, .iload 4, 26, 0, 0), (26, .if_icmp .ge 30, 29, 56, 0), (29, .aload_n 0, 30, 0, 0), (30, .getfield 10, 33, 0, 0), (33, .iload 5, 35, 0, 0), (35, .invokevirtual 151, 38, 0, 0), (38, .iload_n 1, 39, 0, 0), (39, .if_icmp .ne 11, 42, 50, 0), (42, .aload_n 0, 43, 0, 0), (43, .iload 5, 45, 0, 0), (45, .iload_n 2, 46, 0, 0), (46, .iload_n 3, 47, 0, 0), (47, .invokevirtual 168, 50, 0, 0), (50, .iinc 5 1, 53, 0, 1), (53, .goto (-31), 56, 22, 0), (56, .return_, 57, 0, 0)])
def mSt_takeField : ri_M := (4, ⟨"Striping", "takeField", "(III)V"⟩, prog_1_method_18_code, 6, (none), [(0, .aload_n 0, 1, 0, 0), (1, .getfield 19, 4, 0, 0), (4, .aload_n 0, 5, 0, 0), (5, .getfield 161, 8, 0, 0), (8, .invokevirtual 171, 11, 0, 0), (11, .iload_n 1, 12, 0, 0), (12, .if_icmp .eq 10, 15, 22, 0), (15, .aload_n 0, 16, 0, 0), (16, .iload_n 1, 17, 0, 0), (17, .iload_n 2, 18, 0, 0), (18, .invokevirtual 174, 21, 0, 0), (21, .return_, 22, 0, 0), (22, .iload_n 2, 23, 0, 0), (23, .istore 4, 25, 0, 0), (25, .iconst 0, 26, 0, 0), (26, .istore 5, 28, 0, 0), (28, .iload 5, 30, 0, 0), (30, .sipush 2048, 33, 0, 2048), (33, .if_icmp .ge 42, 36, 75, 0), (36, .aload_n 0, 37, 0, 0), (37, .getfield 19, 40, 0, 0), (40, .aload_n 0, 41, 0, 0), (41, .getfield 161, 44, 0, 0), (44, .invokevirtual 171, 47, 0, 0), (47, .iload_n 1, 48, 0, 0), (48, .if_icmp .ne 27, 51, 75, 0), (51, .aload_n 0, 52, 0, 0), (52, .iload_n 1, 53, 0, 0), (53, .iload 4, 55, 0, 0), (55, .iload_n 3, 56, 0, 0), (56, .invokevirtual 177, 59, 0, 0), (59, .aload_n 0, 60, 0, 0), (60, .getfield 10, 63, 0, 0), (63, .iload_n 1, 64, 0, 0), (64, .invokevirtual 114, 67, 0, 0), (67, .istore 4, 69, 0, 0), (69, .iinc 5 1, 72, 0, 1), (72, .goto (-44), 75, 28, 0), (75, .return_, 76, 0, 0)])
def mDr_fieldAt : ri_M := (1, ⟨"Striping$Draft", "fieldAt", "(I)I"⟩, prog_3_method_9_code, 2, (some .int), [(0, .iload_n 1, 1, 0, 0), (1, .ifCond .lt 20, 4, 21, 0), (4, .iload_n 1, 5, 0, 0), (5, .aload_n 0, 6, 0, 0), (6, .getfield 31, 9, 0, 0), (9, .if_icmp .ge 12, 12, 21, 0), (12, .aload_n 0, 13, 0, 0), (13, .getfield 18, 16, 0, 0), (16, .iload_n 1, 17, 0, 0), (17, .iaload, 18, 0, 0), (18, .goto 4, 21, 22, 0), (21, .iconst (-1), 22, 0, -1), (22, .ireturn, 23, 0, 0)])
def mSt_addEmptyEntries : ri_M := (4, ⟨"Striping", "addEmptyEntries", "(II)V"⟩, prog_1_method_20_code, 7, (none), [(0, .aload_n 0, 1, 0, 0), (1, .getfield 10, 4, 0, 0), (4, .aload_n 0, 5, 0, 0), (5, .getfield 10, 8, 0, 0), (8, .iload_n 1, 9, 0, 0), (9, .invokevirtual 151, 12, 0, 0), (12, .invokevirtual 117, 15, 0, 0), (15, .istore_n 3, 16, 0, 0), (16, .aload_n 0, 17, 0, 0), (17, .getfield 10, 20, 0, 0), (20, .iload_n 1, 21, 0, 0), (21, .invokevirtual 186, 24, 0, 0), (24, .lstore 4, 26, 0, 0), (26, .iconst 0, 27, 0, 0), (27, .istore 6, 29, 0, 0), (29, .iload 6, 31, 0, 0), (31, .bipush 48, 33, 0, 48), (33, .if_icmp .ge 31, 36, 64, 0), (36, .lload 4, 38, 0, 0), (38, .iload 6, 40, 0, 0), (40, .invokestatic 190, 43, 0, 0), (43, .ifCond .eq 15, 46, 58, 0), (46, .aload_n 0, 47, 0, 0), (47, .getfield 39, 50, 0, 0), (50, .iload 6, 52, 0, 0), (52, .iload_n 2, 53, 0, 0), (53, .iload_n 3, 54, 0, 0), (54, .iconst 0, 55, 0, 0), (55, .invokevirtual 183, 58, 0, 0), (58, .iinc 6 1, 61, 0, 1), (61, .goto (-32), 64, 29, 0), (64, .return_, 65, 0, 0)])
def mSc_columnsIn : ri_M := (3, ⟨"Striping$Schema", "columnsIn", "(I)J"⟩, prog_5_method_17_code, 2, (some .long), [(0, .aload_n 0, 1, 0, 0), (1, .iload_n 1, 2, 0, 0), (2, .invokevirtual 69, 5, 0, 0), (5, .ifCond .eq 12, 8, 17, 0), (8, .aload_n 0, 9, 0, 0), (9, .getfield 33, 12, 0, 0), (12, .iload_n 1, 13, 0, 0), (13, .laload, 14, 0, 0), (14, .goto 4, 17, 18, 0), (17, .lconst 0, 18, 0, 0), (18, .lreturn, 19, 0, 0)])
def mSt_holds : ri_M := (4, ⟨"Striping", "holds", "(JI)Z"⟩, prog_1_method_30_code, 3, (some .boolean), [(0, .lload_n 0, 1, 0, 0), (1, .iload_n 2, 2, 0, 0), (2, .lushr, 3, 0, 0), (3, .lconst 1, 4, 0, 0), (4, .land, 5, 0, 0), (5, .lconst 0, 6, 0, 0), (6, .lcmp, 7, 0, 0), (7, .ifCond .eq 7, 10, 14, 0), (10, .iconst 1, 11, 0, 1), (11, .goto 4, 14, 15, 0), (14, .iconst 0, 15, 0, 0), (15, .ireturn, 16, 0, 0)])
def mCo_add : ri_M := (0, ⟨"Striping$Columns", "add", "(IIII)V"⟩, prog_2_method_4_code, 7, (none), [(0, .aload_n 0, 1, 0, 0), (1, .iload_n 1, 2, 0, 0), (2, .invokevirtual 26, 5, 0, 0), (5, .ifCond .eq 15, 8, 20, 0), (8, .aload_n 0, 9, 0, 0), (9, .getfield 15, 12, 0, 0), (12, .iload_n 1, 13, 0, 0), (13, .iaload, 14, 0, 0), (14, .sipush 2176, 17, 0, 2176), (17, .if_icmp .lt 4, 20, 21, 0), (20, .return_, 21, 0, 0), (21, .iconst 3, 22, 0, 3), (22, .aload_n 0, 23, 0, 0), (23, .getfield 15, 26, 0, 0), (26, .iload_n 1, 27, 0, 0), (27, .iaload, 28, 0, 0), (28, .imul, 29, 0, 0), (29, .istore 5, 31, 0, 0), (31, .aload_n 0, 32, 0, 0), (32, .getfield 23, 35, 0, 0), (35, .iload_n 1, 36, 0, 0), (36, .aaload, 37, 0, 0), (37, .iload 5, 39, 0, 0), (39, .iconst 3, 40, 0, 3), (40, .iadd, 41, 0, 0), (41, .invokestatic 30, 44, 0, 0), (44, .astore 6, 46, 0, 0), (46, .aload 6, 48, 0, 0), (48, .iload 5, 50, 0, 0), (50, .iconst 0, 51, 0, 0), (51, .iadd, 52, 0, 0), (52, .iload_n 2, 53, 0, 0), (53, .iastore, 54, 0, 0), (54, .aload 6, 56, 0, 0), (56, .iload 5, 58, 0, 0), (58, .iconst 1, 59, 0, 1), (59, .iadd, 60, 0, 0), (60, .iload_n 3, 61, 0, 0), (61, .iastore, 62, 0, 0), (62, .aload 6, 64, 0, 0), (64, .iload 5, 66, 0, 0), (66, .iconst 2, 67, 0, 2), (67, .iadd, 68, 0, 0), (68, .iload 4, 70, 0, 0), (70, .iastore, 71, 0, 0), (71, .aload_n 0, 72, 0, 0), (72, .getfield 23, 75, 0, 0), (75, .iload_n 1, 76, 0, 0), (76, .aload 6, 78, 0, 0), (78, .aastore, 79, 0, 0), (79, .aload_n 0, 80, 0, 0), (80, .getfield 15, 83, 0, 0), (83, .iload_n 1, 84, 0, 0), (84, .dup2, 85, 0, 0), (85, .iaload, 86, 0, 0), (86, .iconst 1, 87, 0, 1), (87, .iadd, 88, 0, 0), (88, .iastore, 89, 0, 0), (89, .return_, 90, 0, 0)])
def mCo_has : ri_M := (0, ⟨"Striping$Columns", "has", "(I)Z"⟩, prog_2_method_2_code, 2, (some .boolean), [(0, .iload_n 1, 1, 0, 0), (1, .ifCond .lt 16, 4, 17, 0), (4, .iload_n 1, 5, 0, 0), (5, .aload_n 0, 6, 0, 0), (6, .getfield 15, 9, 0, 0), (9, .arraylength, 10, 0, 0), (10, .if_icmp .ge 7, 13, 17, 0), (13, .iconst 1, 14, 0, 1), (14, .goto 4, 17, 18, 0), (17, .iconst 0, 18, 0, 0), (18, .ireturn, 19, 0, 0)])
def mSt_takeOccurrence : ri_M := (4, ⟨"Striping", "takeOccurrence", "(III)V"⟩, prog_1_method_19_code, 5, (none), [(0, .aload_n 0, 1, 0, 0), (1, .getfield 19, 4, 0, 0), (4, .aload_n 0, 5, 0, 0), (5, .getfield 161, 8, 0, 0), (8, .invokevirtual 180, 11, 0, 0), (11, .istore 4, 13, 0, 0), (13, .aload_n 0, 14, 0, 0), (14, .dup, 15, 0, 0), (15, .getfield 161, 18, 0, 0), (18, .iconst 1, 19, 0, 1), (19, .iadd, 20, 0, 0), (20, .putfield 161, 23, 0, 0), (23, .aload_n 0, 24, 0, 0), (24, .getfield 10, 27, 0, 0), (27, .iload_n 1, 28, 0, 0), (28, .invokevirtual 68, 31, 0, 0), (31, .ifCond .eq 15, 34, 46, 0), (34, .aload_n 0, 35, 0, 0), (35, .iload_n 1, 36, 0, 0), (36, .iload_n 2, 37, 0, 0), (37, .iload_n 3, 38, 0, 0), (38, .iconst 1, 39, 0, 1), (39, .iadd, 40, 0, 0), (40, .invokevirtual 164, 43, 0, 0), (43, .goto 29, 46, 72, 0), (46, .aload_n 0, 47, 0, 0), (47, .getfield 39, 50, 0, 0), (50, .aload_n 0, 51, 0, 0), (51, .getfield 10, 54, 0, 0), (54, .iload_n 1, 55, 0, 0), (55, .invokevirtual 120, 58, 0, 0), (58, .iload_n 2, 59, 0, 0), (59, .aload_n 0, 60, 0, 0), (60, .getfield 10, 63, 0, 0), (63, .iload_n 1, 64, 0, 0), (64, .invokevirtual 117, 67, 0, 0), (67, .iload 4, 69, 0, 0), (69, .invokevirtual 183, 72, 0, 0), (72, .return_, 73, 0, 0)])
def mDr_valueAt : ri_M := (1, ⟨"Striping$Draft", "valueAt", "(I)I"⟩, prog_3_method_10_code, 2, (some .int), [(0, .iload_n 1, 1, 0, 0), (1, .ifCond .lt 20, 4, 21, 0), (4, .iload_n 1, 5, 0, 0), (5, .aload_n 0, 6, 0, 0), (6, .getfield 31, 9, 0, 0), (9, .if_icmp .ge 12, 12, 21, 0), (12, .aload_n 0, 13, 0, 0), (13, .getfield 21, 16, 0, 0), (16, .iload_n 1, 17, 0, 0), (17, .iaload, 18, 0, 0), (18, .goto 4, 21, 22, 0), (21, .iconst 0, 22, 0, 0), (22, .ireturn, 23, 0, 0)])
def mSc_columnOf : ri_M := (3, ⟨"Striping$Schema", "columnOf", "(I)I"⟩, prog_5_method_15_code, 2, (some .int), [(0, .aload_n 0, 1, 0, 0), (1, .iload_n 1, 2, 0, 0), (2, .invokevirtual 69, 5, 0, 0), (5, .ifCond .eq 12, 8, 17, 0), (8, .aload_n 0, 9, 0, 0), (9, .getfield 27, 12, 0, 0), (12, .iload_n 1, 13, 0, 0), (13, .iaload, 14, 0, 0), (14, .goto 4, 17, 18, 0), (17, .iconst (-1), 18, 0, -1), (18, .ireturn, 19, 0, 0)])
def mSt_drop : ri_M := (4, ⟨"Striping", "drop", "()Z"⟩, prog_1_method_8_code, 1, (some .boolean), [(0, .aload_n 0, 1, 0, 0), (1, .getfield 19, 4, 0, 0), (4, .getfield 59, 7, 0, 0), (7, .ifCond .ne 5, 10, 12, 0), (10, .iconst 0, 11, 0, 0), (11, .ireturn, 12, 0, 0), (12, .aload_n 0, 13, 0, 0), (13, .getfield 19, 16, 0, 0), (16, .invokevirtual 108, 19, 0, 0), (19, .iconst 1, 20, 0, 1), (20, .ireturn, 21, 0, 0)])
def mSt_records : ri_M := (4, ⟨"Striping", "records", "()I"⟩, prog_1_method_9_code, 1, (some .int), [(0, .aload_n 0, 1, 0, 0), (1, .getfield 62, 4, 0, 0), (4, .ireturn, 5, 0, 0)])
def mSt_level : ri_M := (4, ⟨"Striping", "level", "(II)I"⟩, prog_1_method_10_code, 3, (some .int), [(0, .aload_n 0, 1, 0, 0), (1, .getfield 10, 4, 0, 0), (4, .iload_n 1, 5, 0, 0), (5, .invokevirtual 111, 8, 0, 0), (8, .ifCond .ne 5, 11, 13, 0), (11, .iconst (-1), 12, 0, -1), (12, .ireturn, 13, 0, 0), (13, .iload_n 2, 14, 0, 0), (14, .tableswitch 53 0 2 #[26, 35, 44], 40, 67, 14), (40, .aload_n 0, 41, 0, 0), (41, .getfield 10, 44, 0, 0), (44, .iload_n 1, 45, 0, 0), (45, .invokevirtual 114, 48, 0, 0), (48, .ireturn, 49, 0, 0), (49, .aload_n 0, 50, 0, 0), (50, .getfield 10, 53, 0, 0), (53, .iload_n 1, 54, 0, 0), (54, .invokevirtual 117, 57, 0, 0), (57, .ireturn, 58, 0, 0), (58, .aload_n 0, 59, 0, 0), (59, .getfield 10, 62, 0, 0), (62, .iload_n 1, 63, 0, 0), (63, .invokevirtual 120, 66, 0, 0), (66, .ireturn, 67, 0, 0), (67, .iconst (-1), 68, 0, -1), (68, .ireturn, 69, 0, 0)])
def mSt_entries : ri_M := (4, ⟨"Striping", "entries", "(I)I"⟩, prog_1_method_11_code, 2, (some .int), [(0, .aload_n 0, 1, 0, 0), (1, .getfield 39, 4, 0, 0), (4, .iload_n 1, 5, 0, 0), (5, .invokevirtual 123, 8, 0, 0), (8, .ireturn, 9, 0, 0)])
def mCo_sizeOf : ri_M := (0, ⟨"Striping$Columns", "sizeOf", "(I)I"⟩, prog_2_method_3_code, 2, (some .int), [(0, .aload_n 0, 1, 0, 0), (1, .iload_n 1, 2, 0, 0), (2, .invokevirtual 26, 5, 0, 0), (5, .ifCond .eq 12, 8, 17, 0), (8, .aload_n 0, 9, 0, 0), (9, .getfield 15, 12, 0, 0), (12, .iload_n 1, 13, 0, 0), (13, .iaload, 14, 0, 0), (14, .goto 4, 17, 18, 0), (17, .iconst (-1), 18, 0, -1), (18, .ireturn, 19, 0, 0)])
def mSt_entry : ri_M := (4, ⟨"Striping", "entry", "(III)I"⟩, prog_1_method_12_code, 4, (some .int), [(0, .aload_n 0, 1, 0, 0), (1, .getfield 39, 4, 0, 0), (4, .iload_n 1, 5, 0, 0), (5, .iload_n 2, 6, 0, 0), (6, .iload_n 3, 7, 0, 0), (7, .invokevirtual 126, 10, 0, 0), (10, .ireturn, 11, 0, 0)])
def mCo_read : ri_M := (0, ⟨"Striping$Columns", "read", "(III)I"⟩, prog_2_method_5_code, 4, (some .int), [(0, .aload_n 0, 1, 0, 0), (1, .iload_n 1, 2, 0, 0), (2, .invokevirtual 26, 5, 0, 0), (5, .ifCond .eq 26, 8, 31, 0), (8, .iload_n 2, 9, 0, 0), (9, .ifCond .lt 22, 12, 31, 0), (12, .iload_n 2, 13, 0, 0), (13, .aload_n 0, 14, 0, 0), (14, .getfield 15, 17, 0, 0), (17, .iload_n 1, 18, 0, 0), (18, .iaload, 19, 0, 0), (19, .if_icmp .ge 12, 22, 31, 0), (22, .iload_n 3, 23, 0, 0), (23, .ifCond .lt 8, 26, 31, 0), (26, .iload_n 3, 27, 0, 0), (27, .iconst 3, 28, 0, 3), (28, .if_icmp .lt 5, 31, 33, 0), (31, .iconst (-1), 32, 0, -1), (32, .ireturn, 33, 0, 0), (33, .aload_n 0, 34, 0, 0), (34, .getfield 23, 37, 0, 0), (37, .iload_n 1, 38, 0, 0), (38, .aaload, 39, 0, 0), (39, .iconst 3, 40, 0, 3), (40, .iload_n 2, 41, 0, 0), (41, .imul, 42, 0, 0), (42, .iload_n 3, 43, 0, 0), (43, .iadd, 44, 0, 0), (44, .iaload, 45, 0, 0), (45, .ireturn, 46, 0, 0)])
def mSt_assemble : ri_M := (4, ⟨"Striping", "assemble", "(III)I"⟩, prog_1_method_13_code, 4, (some .int), [(0, .aload_n 0, 1, 0, 0), (1, .getfield 26, 4, 0, 0), (4, .invokevirtual 130, 7, 0, 0), (7, .iload_n 1, 8, 0, 0), (8, .ifCond .lt 11, 11, 19, 0), (11, .iload_n 1, 12, 0, 0), (12, .aload_n 0, 13, 0, 0), (13, .getfield 62, 16, 0, 0), (16, .if_icmp .lt 5, 19, 21, 0), (19, .iconst (-1), 20, 0, -1), (20, .ireturn, 21, 0, 0), (21, .aload_n 0, 22, 0, 0), (22, .iload_n 2, 23, 0, 0), (23, .i2l, 24, 0, 0), (24, .ldc2_w 131, 27, 0, 0), (27, .land, 28, 0, 0), (28, .iload_n 3, 29, 0, 0), (29, .i2l, 30, 0, 0), (30, .ldc2_w 133, 33, 0, 0), (33, .land, 34, 0, 0), (34, .bipush 32, 36, 0, 32), (36, .lshl, 37, 0, 0), (37, .lor, 38, 0, 0), (38, .putfield 135, 41, 0, 0), (41, .aload_n 0, 42, 0, 0), (42, .iload_n 1, 43, 0, 0), (43, .invokevirtual 139, 46, 0, 0), (46, .aload_n 0, 47, 0, 0), (47, .iconst (-1), 48, 0, -1), (48, .iconst 0, 49, 0, 0), (49, .invokevirtual 142, 52, 0, 0), (52, .aload_n 0, 53, 0, 0), (53, .getfield 26, 56, 0, 0), (56, .getfield 145, 59, 0, 0), (59, .ireturn, 60, 0, 0)])
def mEv_clear : ri_M := (2, ⟨"Striping$Events", "clear", "()V"⟩, prog_4_method_2_code, 1, (none), [(0, .aload_n 0, 1, 0, 0), (1, .iconst 0, 2, 0, 0), (2, .putfield 15, 5, 0, 0), (5, .return_, 6, 0, 0)])
def mSt_seek : ri_M := (4, ⟨"Striping", "seek", "(I)V"⟩, prog_1_method_21_code, 3, (none), [(0, .iconst 0, 1, 0, 0), (1, .istore_n 2, 2, 0, 0), (2, .iload_n 2, 3, 0, 0), (3, .bipush 48, 5, 0, 48), (5, .if_icmp .ge 35, 8, 40, 0), (8, .aload_n 0, 9, 0, 0), (9, .getfield 135, 12, 0, 0), (12, .iload_n 2, 13, 0, 0), (13, .invokestatic 190, 16, 0, 0), (16, .ifCond .eq 18, 19, 34, 0), (19, .aload_n 0, 20, 0, 0), (20, .getfield 30, 23, 0, 0), (23, .iload_n 2, 24, 0, 0), (24, .aload_n 0, 25, 0, 0), (25, .getfield 39, 28, 0, 0), (28, .iload_n 2, 29, 0, 0), (29, .iload_n 1, 30, 0, 0), (30, .invokevirtual 194, 33, 0, 0), (33, .iastore, 34, 0, 0), (34, .iinc 2 1, 37, 0, 1), (37, .goto (-35), 40, 2, 0), (40, .return_, 41, 0, 0)])
def mCo_startOf : ri_M := (0, ⟨"Striping$Columns", "startOf", "(II)I"⟩, prog_2_method_6_code, 6, (some .int), [(0, .aload_n 0, 1, 0, 0), (1, .iload_n 1, 2, 0, 0), (2, .invokevirtual 34, 5, 0, 0), (5, .istore_n 3, 6, 0, 0), (6, .iconst 0, 7, 0, 0), (7, .istore 4, 9, 0, 0), (9, .iconst 0, 10, 0, 0), (10, .istore 5, 12, 0, 0), (12, .iload 5, 14, 0, 0), (14, .iload_n 3, 15, 0, 0), (15, .if_icmp .ge 32, 18, 47, 0), (18, .aload_n 0, 19, 0, 0), (19, .iload_n 1, 20, 0, 0), (20, .iload 5, 22, 0, 0), (22, .iconst 0, 23, 0, 0), (23, .invokevirtual 38, 26, 0, 0), (26, .ifCond .ne 15, 29, 41, 0), (29, .iload 4, 31, 0, 0), (31, .iload_n 2, 32, 0, 0), (32, .if_icmp .ne 6, 35, 38, 0), (35, .iload 5, 37, 0, 0), (37, .ireturn, 38, 0, 0), (38, .iinc 4 1, 41, 0, 1), (41, .iinc 5 1, 44, 0, 1), (44, .goto (-32), 47, 12, 0), (47, .iload_n 3, 48, 0, 0), (48, .ireturn, 49, 0, 0)])
def mSt_putFields : ri_M := (4, ⟨"Striping", "putFields", "(II)V"⟩, prog_1_method_22_code, 5, (none), [(0, .iload_n 2, 1, 0, 0), (1, .bipush 16, 3, 0, 16), (3, .if_icmp .lt 4, 6, 7, 0), (6, .return_, 7, 0, 0), (7, .aload_n 0, 8, 0, 0), (8, .getfield 10, 11, 0, 0), (11, .iload_n 1, 12, 0, 0), (12, .invokevirtual 91, 15, 0, 0), (15, .istore_n 3, 16, 0, 0), (16, .iload_n 1, 17, 0, 0), (17, .iconst 1, 18, 0, 1), (18, .iadd, 19, 0, 0), (19, .istore 4, 21, 0, 0), (21, .iload 4, 23, 0, 0), (23, .iload_n 3, 24, 0, 0), (24, .if_icmp .ge 29, 27, 53, 0), (27, .aload_n 0, 28, 0, 0), (28, .getfield 10, 31, 0, 0), (31, .iload 4, 33, 0, 0), (33, .invokevirtual 151, 36, 0, 0), (36, .iload_n 1, 37, 0, 0), (37, .if_icmp .ne 10, 40, 47, 0), (40, .aload_n 0, 41, 0, 0), (41, .iload 4, 43, 0, 0), (43, .iload_n 2, 44, 0, 0), (44, .invokevirtual 197, 47, 0, 0), (47, .iinc 4 1, 50, 0, 1), (50, .goto (-29), 53, 21, 0), (53, .return_, 54, 0, 0)])
def mSt_putField : ri_M := (4, ⟨"Striping", "putField", "(II)V"⟩, prog_1_method_23_code, 7, (none), [(0, .aload_n 0, 1, 0, 0), (1, .getfield 10, 4, 0, 0), (4, .iload_n 1, 5, 0, 0), (5, .invokevirtual 186, 8, 0, 0), (8, .aload_n 0, 9, 0, 0), (9, .getfield 135, 12, 0, 0), (12, .land, 13, 0, 0), (13, .lstore_n 3, 14, 0, 0), (14, .lload_n 3, 15, 0, 0), (15, .invokestatic 200, 18, 0, 0), (18, .istore 5, 20, 0, 0), (20, .iload 5, 22, 0, 0), (22, .iconst (-1), 23, 0, -1), (23, .if_icmp .ne 4, 26, 27, 0), (26, .return_, 27, 0, 0), (27, .aload_n 0, 28, 0, 0), (28, .iload 5, 30, 0, 0), (30, .iconst 1, 31, 0, 1), (31, .invokevirtual 204, 34, 0, 0), (34, .aload_n 0, 35, 0, 0), (35, .getfield 10, 38, 0, 0), (38, .iload_n 1, 39, 0, 0), (39, .invokevirtual 117, 42, 0, 0), (42, .if_icmp .ge 9, 45, 51, 0), (45, .aload_n 0, 46, 0, 0), (46, .lload_n 3, 47, 0, 0), (47, .invokevirtual 207, 50, 0, 0), (50, .return_, 51, 0, 0), (51, .aload_n 0, 52, 0, 0), (52, .iload_n 1, 53, 0, 0), (53, .iload_n 2, 54, 0, 0), (54, .invokevirtual 211, 57, 0, 0), (57, .iconst 1, 58, 0, 1), (58, .istore 6, 60, 0, 0), (60, .iload 6, 62, 0, 0), (62, .sipush 2048, 65, 0, 2048), (65, .if_icmp .ge 25, 68, 90, 0), (68, .aload_n 0, 69, 0, 0), (69, .iload_n 1, 70, 0, 0), (70, .iload 5, 72, 0, 0), (72, .invokevirtual 214, 75, 0, 0), (75, .ifCond .eq 15, 78, 90, 0), (78, .aload_n 0, 79, 0, 0), (79, .iload_n 1, 80, 0, 0), (80, .iload_n 2, 81, 0, 0), (81, .invokevirtual 211, 84, 0, 0), (84, .iinc 6 1, 87, 0, 1), (87, .goto (-27), 90, 60, 0), (90, .return_, 91, 0, 0)])
def mSt_lowestOf : ri_M := (4, ⟨"Striping", "lowestOf", "(J)I"⟩, prog_1_method_31_code, 3, (some .int), [(0, .iconst 0, 1, 0, 0), (1, .istore_n 2, 2, 0, 0), (2, .iload_n 2, 3, 0, 0), (3, .bipush 48, 5, 0, 48), (5, .if_icmp .ge 19, 8, 24, 0), (8, .lload_n 0, 9, 0, 0), (9, .iload_n 2, 10, 0, 0), (10, .invokestatic 190, 13, 0, 0), (13, .ifCond .eq 5, 16, 18, 0), (16, .iload_n 2, 17, 0, 0), (17, .ireturn, 18, 0, 0), (18, .iinc 2 1, 21, 0, 1), (21, .goto (-19), 24, 2, 0), (24, .iconst (-1), 25, 0, -1), (25, .ireturn, 26, 0, 0)])
def mSt_peek : ri_M := (4, ⟨"Striping", "peek", "(II)I"⟩, prog_1_method_27_code, 3, (some .int), [(0, .aload_n 0, 1, 0, 0), (1, .iload_n 1, 2, 0, 0), (2, .invokevirtual 222, 5, 0, 0), (5, .ifCond .eq 21, 8, 26, 0), (8, .aload_n 0, 9, 0, 0), (9, .getfield 39, 12, 0, 0), (12, .iload_n 1, 13, 0, 0), (13, .aload_n 0, 14, 0, 0), (14, .getfield 30, 17, 0, 0), (17, .iload_n 1, 18, 0, 0), (18, .iaload, 19, 0, 0), (19, .iload_n 2, 20, 0, 0), (20, .invokevirtual 126, 23, 0, 0), (23, .goto 4, 26, 27, 0), (26, .iconst (-1), 27, 0, -1), (27, .ireturn, 28, 0, 0)])
def mSt_isCursor : ri_M := (4, ⟨"Striping", "isCursor", "(I)Z"⟩, prog_1_method_29_code, 2, (some .boolean), [(0, .iload_n 1, 1, 0, 0), (1, .ifCond .lt 16, 4, 17, 0), (4, .iload_n 1, 5, 0, 0), (5, .aload_n 0, 6, 0, 0), (6, .getfield 30, 9, 0, 0), (9, .arraylength, 10, 0, 0), (10, .if_icmp .ge 7, 13, 17, 0), (13, .iconst 1, 14, 0, 1), (14, .goto 4, 17, 18, 0), (17, .iconst 0, 18, 0, 0), (18, .ireturn, 19, 0, 0)])
def mSt_passEmptyEntries : ri_M := (4, ⟨"Striping", "passEmptyEntries", "(J)V"⟩, prog_1_method_26_code, 4, (none), [(0, .iconst 0, 1, 0, 0), (1, .istore_n 3, 2, 0, 0), (2, .iload_n 3, 3, 0, 0), (3, .bipush 48, 5, 0, 48), (5, .if_icmp .ge 22, 8, 27, 0), (8, .lload_n 1, 9, 0, 0), (9, .iload_n 3, 10, 0, 0), (10, .invokestatic 190, 13, 0, 0), (13, .ifCond .eq 8, 16, 21, 0), (16, .aload_n 0, 17, 0, 0), (17, .iload_n 3, 18, 0, 0), (18, .invokevirtual 219, 21, 0, 0), (21, .iinc 3 1, 24, 0, 1), (24, .goto (-22), 27, 2, 0), (27, .return_, 28, 0, 0)])
def mSt_pass : ri_M := (4, ⟨"Striping", "pass", "(I)V"⟩, prog_1_method_28_code, 2, (none), [(0, .aload_n 0, 1, 0, 0), (1, .iload_n 1, 2, 0, 0), (2, .invokevirtual 222, 5, 0, 0), (5, .ifCond .eq 13, 8, 18, 0), (8, .aload_n 0, 9, 0, 0), (9, .getfield 30, 12, 0, 0), (12, .iload_n 1, 13, 0, 0), (13, .dup2, 14, 0, 0), (14, .iaload, 15, 0, 0), (15, .iconst 1, 16, 0, 1), (16, .iadd, 17, 0, 0), (17, .iastore, 18, 0, 0), (18, .return_, 19, 0, 0)])
def mSt_putOccurrence : ri_M := (4, ⟨"Striping", "putOccurrence", "(II)V"⟩, prog_1_method_25_code, 4, (none), [(0, .aload_n 0, 1, 0, 0), (1, .getfield 10, 4, 0, 0), (4, .iload_n 1, 5, 0, 0), (5, .invokevirtual 68, 8, 0, 0), (8, .ifCond .eq 38, 11, 46, 0), (11, .aload_n 0, 12, 0, 0), (12, .getfield 26, 15, 0, 0), (15, .iconst 2, 16, 0, 2), (16, .iload_n 1, 17, 0, 0), (17, .imul, 18, 0, 0), (18, .iconst 0, 19, 0, 0), (19, .invokevirtual 218, 22, 0, 0), (22, .aload_n 0, 23, 0, 0), (23, .iload_n 1, 24, 0, 0), (24, .iload_n 2, 25, 0, 0), (25, .iconst 1, 26, 0, 1), (26, .iadd, 27, 0, 0), (27, .invokevirtual 142, 30, 0, 0), (30, .aload_n 0, 31, 0, 0), (31, .getfield 26, 34, 0, 0), (34, .iconst 2, 35, 0, 2), (35, .iload_n 1, 36, 0, 0), (36, .imul, 37, 0, 0), (37, .iconst 1, 38, 0, 1), (38, .iadd, 39, 0, 0), (39, .iconst 0, 40, 0, 0), (40, .invokevirtual 218, 43, 0, 0), (43, .goto 33, 46, 76, 0), (46, .aload_n 0, 47, 0, 0), (47, .getfield 10, 50, 0, 0), (50, .iload_n 1, 51, 0, 0), (51, .invokevirtual 120, 54, 0, 0), (54, .istore_n 3, 55, 0, 0), (55, .aload_n 0, 56, 0, 0), (56, .getfield 26, 59, 0, 0), (59, .iconst 2, 60, 0, 2), (60, .iload_n 1, 61, 0, 0), (61, .imul, 62, 0, 0), (62, .aload_n 0, 63, 0, 0), (63, .iload_n 3, 64, 0, 0), (64, .iconst 2, 65, 0, 2), (65, .invokevirtual 204, 68, 0, 0), (68, .invokevirtual 218, 71, 0, 0), (71, .aload_n 0, 72, 0, 0), (72, .iload_n 3, 73, 0, 0), (73, .invokevirtual 219, 76, 0, 0), (76, .return_, 77, 0, 0)])
def mEv_add : ri_M := (2, ⟨"Striping$Events", "add", "(II)V"⟩, prog_4_method_3_code, 4, (none), [(0, .aload_n 0, 1, 0, 0), (1, .getfield 15, 4, 0, 0), (4, .sipush 4096, 7, 0, 4096), (7, .if_icmp .lt 4, 10, 11, 0), (10, .return_, 11, 0, 0), (11, .iconst 2, 12, 0, 2), (12, .aload_n 0, 13, 0, 0), (13, .getfield 15, 16, 0, 0), (16, .imul, 17, 0, 0), (17, .istore_n 3, 18, 0, 0), (18, .aload_n 0, 19, 0, 0), (19, .aload_n 0, 20, 0, 0), (20, .getfield 11, 23, 0, 0), (23, .iload_n 3, 24, 0, 0), (24, .iconst 2, 25, 0, 2), (25, .iadd, 26, 0, 0), (26, .invokestatic 19, 29, 0, 0), (29, .putfield 11, 32, 0, 0), (32, .aload_n 0, 33, 0, 0), (33, .getfield 11, 36, 0, 0), (36, .iload_n 3, 37, 0, 0), (37, .iload_n 1, 38, 0, 0), (38, .iastore, 39, 0, 0), (39, .aload_n 0, 40, 0, 0), (40, .getfield 11, 43, 0, 0), (43, .iload_n 3, 44, 0, 0), (44, .iconst 1, 45, 0, 1), (45, .iadd, 46, 0, 0), (46, .iload_n 2, 47, 0, 0), (47, .iastore, 48, 0, 0), (48, .aload_n 0, 49, 0, 0), (49, .dup, 50, 0, 0), (50, .getfield 15, 53, 0, 0), (53, .iconst 1, 54, 0, 1), (54, .iadd, 55, 0, 0), (55, .putfield 15, 58, 0, 0), (58, .return_, 59, 0, 0)])
def mSt_comesAgain : ri_M := (4, ⟨"Striping", "comesAgain", "(II)Z"⟩, prog_1_method_24_code, 3, (some .boolean), [(0, .aload_n 0, 1, 0, 0), (1, .getfield 10, 4, 0, 0), (4, .iload_n 1, 5, 0, 0), (5, .invokevirtual 158, 8, 0, 0), (8, .iconst 2, 9, 0, 2), (9, .if_icmp .ne 24, 12, 33, 0), (12, .aload_n 0, 13, 0, 0), (13, .iload_n 2, 14, 0, 0), (14, .iconst 0, 15, 0, 0), (15, .invokevirtual 204, 18, 0, 0), (18, .aload_n 0, 19, 0, 0), (19, .getfield 10, 22, 0, 0), (22, .iload_n 1, 23, 0, 0), (23, .invokevirtual 114, 26, 0, 0), (26, .if_icmp .ne 7, 29, 33, 0), (29, .iconst 1, 30, 0, 1), (30, .goto 4, 33, 34, 0), (33, .iconst 0, 34, 0, 0), (34, .ireturn, 35, 0, 0)])
def mSt_event : ri_M := (4, ⟨"Striping", "event", "(II)I"⟩, prog_1_method_14_code, 3, (some .int), [(0, .aload_n 0, 1, 0, 0), (1, .getfield 26, 4, 0, 0), (4, .iload_n 1, 5, 0, 0), (5, .iload_n 2, 6, 0, 0), (6, .invokevirtual 148, 9, 0, 0), (9, .ireturn, 10, 0, 0)])
def mEv_read : ri_M := (2, ⟨"Striping$Events", "read", "(II)I"⟩, prog_4_method_4_code, 3, (some .int), [(0, .iload_n 1, 1, 0, 0), (1, .ifCond .lt 20, 4, 21, 0), (4, .iload_n 1, 5, 0, 0), (5, .aload_n 0, 6, 0, 0), (6, .getfield 15, 9, 0, 0), (9, .if_icmp .ge 12, 12, 21, 0), (12, .iload_n 2, 13, 0, 0), (13, .ifCond .lt 8, 16, 21, 0), (16, .iload_n 2, 17, 0, 0), (17, .iconst 2, 18, 0, 2), (18, .if_icmp .lt 5, 21, 23, 0), (21, .iconst (-1), 22, 0, -1), (22, .ireturn, 23, 0, 0), (23, .aload_n 0, 24, 0, 0), (24, .getfield 11, 27, 0, 0), (27, .iconst 2, 28, 0, 2), (28, .iload_n 1, 29, 0, 0), (29, .imul, 30, 0, 0), (30, .iload_n 2, 31, 0, 0), (31, .iadd, 32, 0, 0), (32, .iaload, 33, 0, 0), (33, .ireturn, 34, 0, 0)])
def mMo_init : ri_M := (5, ⟨"StripingModel", "<init>", "()V"⟩, prog_7_method_1_code, 1, (none), [(0, .aload_n 0, 1, 0, 0), (1, .invokespecial 1, 4, 0, 0), (4, .aload_n 0, 5, 0, 0), (5, .bipush 48, 7, 0, 48), (7, .newarray .int, 9, 0, 0), (9, .putfield 7, 12, 0, 0), (12, .aload_n 0, 13, 0, 0), (13, .bipush 48, 15, 0, 48), (15, .newarray .int, 17, 0, 0), (17, .putfield 13, 20, 0, 0), (20, .aload_n 0, 21, 0, 0), (21, .bipush 48, 23, 0, 48), (23, .newarray .int, 25, 0, 0), (25, .putfield 16, 28, 0, 0), (28, .aload_n 0, 29, 0, 0), (29, .bipush 48, 31, 0, 48), (31, .newarray .boolean, 33, 0, 0), (33, .putfield 19, 36, 0, 0), (36, .aload_n 0, 37, 0, 0), (37, .sipush 2048, 40, 0, 2048), (40, .newarray .int, 42, 0, 0), (42, .putfield 23, 45, 0, 0), (45, .aload_n 0, 46, 0, 0), (46, .sipush 2048, 49, 0, 2048), (49, .newarray .int, 51, 0, 0), (51, .putfield 26, 54, 0, 0), (54, .aload_n 0, 55, 0, 0), (55, .sipush 2048, 58, 0, 2048), (58, .newarray .int, 60, 0, 0), (60, .putfield 29, 63, 0, 0), (63, .aload_n 0, 64, 0, 0), (64, .sipush 129, 67, 0, 129), (67, .newarray .int, 69, 0, 0), (69, .putfield 32, 72, 0, 0), (72, .aload_n 0, 73, 0, 0), (73, .iconst (-1), 74, 0, -1), (74, .putfield 35, 77, 0, 0), (77, .aload_n 0, 78, 0, 0), (78, .bipush 17, 80, 0, 17), (80, .newarray .int, 82, 0, 0), (82, .putfield 39, 85, 0, 0), (85, .aload_n 0, 86, 0, 0), (86, .bipush 17, 88, 0, 17), (88, .newarray .int, 90, 0, 0), (90, .putfield 42, 93, 0, 0), (93, .aload_n 0, 94, 0, 0), (94, .bipush 48, 96, 0, 48), (96, .newarray .boolean, 98, 0, 0), (98, .putfield 45, 101, 0, 0), (101, .aload_n 0, 102, 0, 0), (102, .sipush 4096, 105, 0, 4096), (105, .newarray .int, 107, 0, 0), (107, .putfield 48, 110, 0, 0), (110, .aload_n 0, 111, 0, 0), (111, .sipush 4096, 114, 0, 4096), (114, .newarray .int, 116, 0, 0), (116, .putfield 51, 119, 0, 0), (119, .return_, 120, 0, 0)])
def mMo_field : ri_M := (5, ⟨"StripingModel", "field", "(IIZ)I"⟩, prog_7_method_4_code, 4, (some .int), [(0, .aload_n 0, 1, 0, 0), (1, .getfield 57, 4, 0, 0), (4, .ifCond .ne 34, 7, 38, 0), (7, .aload_n 0, 8, 0, 0), (8, .getfield 54, 11, 0, 0), (11, .bipush 48, 13, 0, 48), (13, .if_icmp .eq 25, 16, 38, 0), (16, .iload_n 2, 17, 0, 0), (17, .ifCond .lt 21, 20, 38, 0), (20, .iload_n 2, 21, 0, 0), (21, .iconst 2, 22, 0, 2), (22, .if_icmp .gt 16, 25, 38, 0), (25, .iload_n 1, 26, 0, 0), (26, .iconst (-1), 27, 0, -1), (27, .if_icmp .lt 11, 30, 38, 0), (30, .iload_n 1, 31, 0, 0), (31, .aload_n 0, 32, 0, 0), (32, .getfield 54, 35, 0, 0), (35, .if_icmp .lt 5, 38, 40, 0), (38, .iconst (-1), 39, 0, -1), (39, .ireturn, 40, 0, 0), (40, .iload_n 1, 41, 0, 0), (41, .iconst (-1), 42, 0, -1), (42, .if_icmp .eq 33, 45, 75, 0), (45, .aload_n 0, 46, 0, 0), (46, .getfield 19, 49, 0, 0), (49, .iload_n 1, 50, 0, 0), (50, .baload, 51, 0, 0), (51, .ifCond .eq 22, 54, 73, 0), (54, .aload_n 0, 55, 0, 0), (55, .iload_n 1, 56, 0, 0), (56, .invokevirtual 61, 59, 0, 0), (59, .ifCond .eq 14, 62, 73, 0), (62, .aload_n 0, 63, 0, 0), (63, .getfield 16, 66, 0, 0), (66, .iload_n 1, 67, 0, 0), (67, .iaload, 68, 0, 0), (68, .bipush 16, 70, 0, 16), (70, .if_icmp .ne 5, 73, 75, 0), (73, .iconst (-1), 74, 0, -1), (74, .ireturn, 75, 0, 0), (75, .aload_n 0, 76, 0, 0), (76, .getfield 7, 79, 0, 0), (79, .aload_n 0, 80, 0, 0), (80, .getfield 54, 83, 0, 0), (83, .iload_n 1, 84, 0, 0), (84, .iastore, 85, 0, 0), (85, .aload_n 0, 86, 0, 0), (86, .getfield 13, 89, 0, 0), (89, .aload_n 0, 90, 0, 0), (90, .getfield 54, 93, 0, 0), (93, .iload_n 2, 94, 0, 0), (94, .iastore, 95, 0, 0), (95, .aload_n 0, 96, 0, 0), (96, .getfield 19, 99, 0, 0), (99, .aload_n 0, 100, 0, 0), (100, .getfield 54, 103, 0, 0), (103, .iload_n 3, 104, 0, 0), (104, .bastore, 105, 0, 0), (105, .aload_n 0, 106, 0, 0), (106, .getfield 16, 109, 0, 0), (109, .aload_n 0, 110, 0, 0), (110, .getfield 54, 113, 0, 0), (113, .iload_n 1, 114, 0, 0), (114, .iconst (-1), 115, 0, -1), (115, .if_icmp .ne 7, 118, 122, 0), (118, .iconst 1, 119, 0, 1), (119, .goto 11, 122, 130, 0), (122, .aload_n 0, 123, 0, 0), (123, .getfield 16, 126, 0, 0), (126, .iload_n 1, 127, 0, 0), (127, .iaload, 128, 0, 0), (128, .iconst 1, 129, 0, 1), (129, .iadd, 130, 0, 0), (130, .iastore, 131, 0, 0), (131, .aload_n 0, 132, 0, 0), (132, .dup, 133, 0, 0), (133, .getfield 54, 136, 0, 0), (136, .iconst 1, 137, 0, 1), (137, .iadd, 138, 0, 0), (138, .putfield 54, 141, 0, 0), (141, .aload_n 0, 142, 0, 0), (142, .getfield 54, 145, 0, 0), (145, .iconst 1, 146, 0, 1), (146, .isub, 147, 0, 0), (147, .ireturn, 148, 0, 0)])
def mMo_isAround : ri_M := (5, ⟨"StripingModel", "isAround", "(I)Z"⟩, prog_7_method_3_code, 3, (some .boolean), [(0, .aload_n 0, 1, 0, 0), (1, .getfield 54, 4, 0, 0), (4, .iconst 1, 5, 0, 1), (5, .isub, 6, 0, 0), (6, .istore_n 2, 7, 0, 0), (7, .iload_n 2, 8, 0, 0), (8, .iconst (-1), 9, 0, -1), (9, .if_icmp .eq 18, 12, 27, 0), (12, .iload_n 2, 13, 0, 0), (13, .iload_n 1, 14, 0, 0), (14, .if_icmp .eq 13, 17, 27, 0), (17, .aload_n 0, 18, 0, 0), (18, .getfield 7, 21, 0, 0), (21, .iload_n 2, 22, 0, 0), (22, .iaload, 23, 0, 0), (23, .istore_n 2, 24, 0, 0), (24, .goto (-17), 27, 7, 0), (27, .iload_n 2, 28, 0, 0), (28, .iload_n 1, 29, 0, 0), (29, .if_icmp .ne 7, 32, 36, 0), (32, .iconst 1, 33, 0, 1), (33, .goto 4, 36, 37, 0), (36, .iconst 0, 37, 0, 0), (37, .ireturn, 38, 0, 0)])
def mMo_ready : ri_M := (5, ⟨"StripingModel", "ready", "()I"⟩, prog_7_method_6_code, 5, (some .int), [(0, .aload_n 0, 1, 0, 0), (1, .getfield 57, 4, 0, 0), (4, .ifCond .ne 14, 7, 18, 0), (7, .aload_n 0, 8, 0, 0), (8, .getfield 54, 11, 0, 0), (11, .ifCond .le 7, 14, 18, 0), (14, .iconst 1, 15, 0, 1), (15, .goto 4, 18, 19, 0), (18, .iconst 0, 19, 0, 0), (19, .istore_n 1, 20, 0, 0), (20, .iconst 0, 21, 0, 0), (21, .istore_n 2, 22, 0, 0), (22, .iload_n 2, 23, 0, 0), (23, .aload_n 0, 24, 0, 0), (24, .getfield 54, 27, 0, 0), (27, .if_icmp .ge 77, 30, 104, 0), (30, .aload_n 0, 31, 0, 0), (31, .getfield 19, 34, 0, 0), (34, .iload_n 2, 35, 0, 0), (35, .baload, 36, 0, 0), (36, .ifCond .ne 7, 39, 43, 0), (39, .iconst 1, 40, 0, 1), (40, .goto 4, 43, 44, 0), (43, .iconst 0, 44, 0, 0), (44, .istore_n 3, 45, 0, 0), (45, .iconst 0, 46, 0, 0), (46, .istore 4, 48, 0, 0), (48, .iload 4, 50, 0, 0), (50, .aload_n 0, 51, 0, 0), (51, .getfield 54, 54, 0, 0), (54, .if_icmp .ge 30, 57, 84, 0), (57, .iload_n 3, 58, 0, 0), (58, .ifCond .ne 14, 61, 72, 0), (61, .aload_n 0, 62, 0, 0), (62, .getfield 7, 65, 0, 0), (65, .iload 4, 67, 0, 0), (67, .iaload, 68, 0, 0), (68, .iload_n 2, 69, 0, 0), (69, .if_icmp .ne 7, 72, 76, 0), (72, .iconst 1, 73, 0, 1), (73, .goto 4, 76, 77, 0), (76, .iconst 0, 77, 0, 0), (77, .istore_n 3, 78, 0, 0), (78, .iinc 4 1, 81, 0, 1), (81, .goto (-33), 84, 48, 0), (84, .iload_n 1, 85, 0, 0), (85, .ifCond .eq 11, 88, 96, 0), (88, .iload_n 3, 89, 0, 0), (89, .ifCond .eq 7, 92, 96, 0), (92, .iconst 1, 93, 0, 1), (93, .goto 4, 96, 97, 0), (96, .iconst 0, 97, 0, 0), (97, .istore_n 1, 98, 0, 0), (98, .iinc 2 1, 101, 0, 1), (101, .goto (-79), 104, 22, 0), (104, .iload_n 1, 105, 0, 0), (105, .ifCond .ne 5, 108, 110, 0), (108, .iconst (-1), 109, 0, -1), (109, .ireturn, 110, 0, 0), (110, .aload_n 0, 111, 0, 0), (111, .iconst 1, 112, 0, 1), (112, .putfield 57, 115, 0, 0), (115, .aload_n 0, 116, 0, 0), (116, .invokevirtual 65, 119, 0, 0), (119, .ireturn, 120, 0, 0)])
def mMo_columns : ri_M := (5, ⟨"StripingModel", "columns", "()I"⟩, prog_7_method_5_code, 3, (some .int), [(0, .iconst 0, 1, 0, 0), (1, .istore_n 1, 2, 0, 0), (2, .iconst 0, 3, 0, 0), (3, .istore_n 2, 4, 0, 0), (4, .iload_n 2, 5, 0, 0), (5, .aload_n 0, 6, 0, 0), (6, .getfield 54, 9, 0, 0), (9, .if_icmp .ge 26, 12, 35, 0), (12, .iload_n 1, 13, 0, 0), (13, .aload_n 0, 14, 0, 0), (14, .getfield 19, 17, 0, 0), (17, .iload_n 2, 18, 0, 0), (18, .baload, 19, 0, 0), (19, .ifCond .eq 7, 22, 26, 0), (22, .iconst 0, 23, 0, 0), (23, .goto 4, 26, 27, 0), (26, .iconst 1, 27, 0, 1), (27, .iadd, 28, 0, 0), (28, .istore_n 1, 29, 0, 0), (29, .iinc 2 1, 32, 0, 1), (32, .goto (-28), 35, 4, 0), (35, .iload_n 1, 36, 0, 0), (36, .ireturn, 37, 0, 0)])
def mMo_level : ri_M := (5, ⟨"StripingModel", "level", "(II)I"⟩, prog_7_method_9_code, 3, (some .int), [(0, .aload_n 0, 1, 0, 0), (1, .iload_n 1, 2, 0, 0), (2, .invokevirtual 69, 5, 0, 0), (5, .ifCond .ne 5, 8, 10, 0), (8, .iconst (-1), 9, 0, -1), (9, .ireturn, 10, 0, 0), (10, .iload_n 2, 11, 0, 0), (11, .ifCond .ne 12, 14, 23, 0), (14, .aload_n 0, 15, 0, 0), (15, .iload_n 1, 16, 0, 0), (16, .iconst 2, 17, 0, 2), (17, .invokevirtual 72, 20, 0, 0), (20, .goto 38, 23, 58, 0), (23, .iload_n 2, 24, 0, 0), (24, .iconst 1, 25, 0, 1), (25, .if_icmp .ne 12, 28, 37, 0), (28, .aload_n 0, 29, 0, 0), (29, .iload_n 1, 30, 0, 0), (30, .iconst 1, 31, 0, 1), (31, .invokevirtual 72, 34, 0, 0), (34, .goto 24, 37, 58, 0), (37, .iload_n 2, 38, 0, 0), (38, .iconst 2, 39, 0, 2), (39, .if_icmp .ne 18, 42, 57, 0), (42, .aload_n 0, 43, 0, 0), (43, .getfield 57, 46, 0, 0), (46, .ifCond .eq 11, 49, 57, 0), (49, .aload_n 0, 50, 0, 0), (50, .iload_n 1, 51, 0, 0), (51, .invokevirtual 76, 54, 0, 0), (54, .goto 4, 57, 58, 0), (57, .iconst (-1), 58, 0, -1), (58, .ireturn, 59, 0, 0)])
def mMo_isField : ri_M := (5, ⟨"StripingModel", "isField", "(I)Z"⟩, prog_7_method_2_code, 2, (some .boolean), [(0, .iload_n 1, 1, 0, 0), (1, .ifCond .lt 15, 4, 16, 0), (4, .iload_n 1, 5, 0, 0), (5, .aload_n 0, 6, 0, 0), (6, .getfield 54, 9, 0, 0), (9, .if_icmp .ge 7, 12, 16, 0), (12, .iconst 1, 13, 0, 1), (13, .goto 4, 16, 17, 0), (16, .iconst 0, 17, 0, 0), (17, .ireturn, 18, 0, 0)])
def mMo_count : ri_M := (5, ⟨"StripingModel", "count", "(II)I"⟩, prog_7_method_7_code, 5, (some .int), [(0, .iconst 0, 1, 0, 0), (1, .istore_n 3, 2, 0, 0), (2, .iload_n 1, 3, 0, 0), (3, .istore 4, 5, 0, 0), (5, .iload 4, 7, 0, 0), (7, .iconst (-1), 8, 0, -1), (8, .if_icmp .eq 34, 11, 42, 0), (11, .iload_n 3, 12, 0, 0), (12, .aload_n 0, 13, 0, 0), (13, .getfield 13, 16, 0, 0), (16, .iload 4, 18, 0, 0), (18, .iaload, 19, 0, 0), (19, .iload_n 2, 20, 0, 0), (20, .if_icmp .lt 7, 23, 27, 0), (23, .iconst 1, 24, 0, 1), (24, .goto 4, 27, 28, 0), (27, .iconst 0, 28, 0, 0), (28, .iadd, 29, 0, 0), (29, .istore_n 3, 30, 0, 0), (30, .aload_n 0, 31, 0, 0), (31, .getfield 7, 34, 0, 0), (34, .iload 4, 36, 0, 0), (36, .iaload, 37, 0, 0), (37, .istore 4, 39, 0, 0), (39, .goto (-34), 42, 5, 0), (42, .iload_n 3, 43, 0, 0), (43, .ireturn, 44, 0, 0)])
def mMo_columnOf : ri_M := (5, ⟨"StripingModel", "columnOf", "(I)I"⟩, prog_7_method_8_code, 4, (some .int), [(0, .iconst 0, 1, 0, 0), (1, .istore_n 2, 2, 0, 0), (2, .iconst 0, 3, 0, 0), (3, .istore_n 3, 4, 0, 0), (4, .iload_n 3, 5, 0, 0), (5, .iload_n 1, 6, 0, 0), (6, .if_icmp .ge 26, 9, 32, 0), (9, .iload_n 2, 10, 0, 0), (10, .aload_n 0, 11, 0, 0), (11, .getfield 19, 14, 0, 0), (14, .iload_n 3, 15, 0, 0), (15, .baload, 16, 0, 0), (16, .ifCond .eq 7, 19, 23, 0), (19, .iconst 0, 20, 0, 0), (20, .goto 4, 23, 24, 0), (23, .iconst 1, 24, 0, 1), (24, .iadd, 25, 0, 0), (25, .istore_n 2, 26, 0, 0), (26, .iinc 3 1, 29, 0, 1), (29, .goto (-25), 32, 4, 0), (32, .aload_n 0, 33, 0, 0), (33, .getfield 19, 36, 0, 0), (36, .iload_n 1, 37, 0, 0), (37, .baload, 38, 0, 0), (38, .ifCond .eq 7, 41, 45, 0), (41, .iconst (-1), 42, 0, -1), (42, .goto 4, 45, 46, 0), (45, .iload_n 2, 46, 0, 0), (46, .ireturn, 47, 0, 0)])
def mMo_begin : ri_M := (5, ⟨"StripingModel", "begin", "()Z"⟩, prog_7_method_10_code, 1, (some .boolean), [(0, .aload_n 0, 1, 0, 0), (1, .getfield 57, 4, 0, 0), (4, .ifCond .eq 20, 7, 24, 0), (7, .aload_n 0, 8, 0, 0), (8, .getfield 80, 11, 0, 0), (11, .ifCond .ne 13, 14, 24, 0), (14, .aload_n 0, 15, 0, 0), (15, .getfield 83, 18, 0, 0), (18, .sipush 128, 21, 0, 128), (21, .if_icmp .ne 5, 24, 26, 0), (24, .iconst 0, 25, 0, 0), (25, .ireturn, 26, 0, 0), (26, .aload_n 0, 27, 0, 0), (27, .getfield 32, 30, 0, 0), (30, .aload_n 0, 31, 0, 0), (31, .getfield 83, 34, 0, 0), (34, .aload_n 0, 35, 0, 0), (35, .getfield 86, 38, 0, 0), (38, .iastore, 39, 0, 0), (39, .aload_n 0, 40, 0, 0), (40, .iconst 1, 41, 0, 1), (41, .putfield 80, 44, 0, 0), (44, .aload_n 0, 45, 0, 0), (45, .iconst (-1), 46, 0, -1), (46, .putfield 35, 49, 0, 0), (49, .iconst 1, 50, 0, 1), (50, .ireturn, 51, 0, 0)])
def mMo_open : ri_M := (5, ⟨"StripingModel", "open", "(I)Z"⟩, prog_7_method_13_code, 2, (some .boolean), [(0, .aload_n 0, 1, 0, 0), (1, .iload_n 1, 2, 0, 0), (2, .iconst 0, 3, 0, 0), (3, .iconst 1, 4, 0, 1), (4, .invokevirtual 92, 7, 0, 0), (7, .ifCond .ne 5, 10, 12, 0), (10, .iconst 0, 11, 0, 0), (11, .ireturn, 12, 0, 0), (12, .aload_n 0, 13, 0, 0), (13, .aload_n 0, 14, 0, 0), (14, .getfield 86, 17, 0, 0), (17, .iconst 1, 18, 0, 1), (18, .isub, 19, 0, 0), (19, .putfield 35, 22, 0, 0), (22, .iconst 1, 23, 0, 1), (23, .ireturn, 24, 0, 0)])
def mMo_comes : ri_M := (5, ⟨"StripingModel", "comes", "(IIZ)Z"⟩, prog_7_method_12_code, 6, (some .boolean), [(0, .aload_n 0, 1, 0, 0), (1, .getfield 80, 4, 0, 0), (4, .ifCond .eq 79, 7, 83, 0), (7, .aload_n 0, 8, 0, 0), (8, .iload_n 1, 9, 0, 0), (9, .invokevirtual 69, 12, 0, 0), (12, .ifCond .eq 71, 15, 83, 0), (15, .aload_n 0, 16, 0, 0), (16, .getfield 19, 19, 0, 0), (19, .iload_n 1, 20, 0, 0), (20, .baload, 21, 0, 0), (21, .iload_n 3, 22, 0, 0), (22, .if_icmp .ne 61, 25, 83, 0), (25, .aload_n 0, 26, 0, 0), (26, .getfield 7, 29, 0, 0), (29, .iload_n 1, 30, 0, 0), (30, .iaload, 31, 0, 0), (31, .aload_n 0, 32, 0, 0), (32, .getfield 35, 35, 0, 0), (35, .iconst (-1), 36, 0, -1), (36, .if_icmp .ne 7, 39, 43, 0), (39, .iconst (-1), 40, 0, -1), (40, .goto 12, 43, 52, 0), (43, .aload_n 0, 44, 0, 0), (44, .getfield 23, 47, 0, 0), (47, .aload_n 0, 48, 0, 0), (48, .getfield 35, 51, 0, 0), (51, .iaload, 52, 0, 0), (52, .if_icmp .ne 31, 55, 83, 0), (55, .aload_n 0, 56, 0, 0), (56, .getfield 86, 59, 0, 0), (59, .sipush 2048, 62, 0, 2048), (62, .if_icmp .eq 21, 65, 83, 0), (65, .aload_n 0, 66, 0, 0), (66, .getfield 13, 69, 0, 0), (69, .iload_n 1, 70, 0, 0), (70, .iaload, 71, 0, 0), (71, .iconst 2, 72, 0, 2), (72, .if_icmp .eq 13, 75, 85, 0), (75, .aload_n 0, 76, 0, 0), (76, .iload_n 1, 77, 0, 0), (77, .invokevirtual 89, 80, 0, 0), (80, .ifCond .le 5, 83, 85, 0), (83, .iconst 0, 84, 0, 0), (84, .ireturn, 85, 0, 0), (85, .iconst 1, 86, 0, 1), (86, .istore 4, 88, 0, 0), (88, .iconst 0, 89, 0, 0), (89, .istore 5, 91, 0, 0), (91, .iload 5, 93, 0, 0), (93, .aload_n 0, 94, 0, 0), (94, .getfield 54, 97, 0, 0), (97, .if_icmp .ge 77, 100, 174, 0), (100, .aload_n 0, 101, 0, 0), (101, .getfield 7, 104, 0, 0), (104, .iload 5, 106, 0, 0), (106, .iaload, 107, 0, 0), (107, .aload_n 0, 108, 0, 0), (108, .getfield 7, 111, 0, 0), (111, .iload_n 1, 112, 0, 0), (112, .iaload, 113, 0, 0), (113, .if_icmp .ne 55, 116, 168, 0), (116, .iload 4, 118, 0, 0), (118, .ifCond .eq 47, 121, 165, 0), (121, .iload 5, 123, 0, 0), (123, .iload_n 1, 124, 0, 0), (124, .if_icmp .ge 22, 127, 146, 0), (127, .aload_n 0, 128, 0, 0), (128, .getfield 13, 131, 0, 0), (131, .iload 5, 133, 0, 0), (133, .iaload, 134, 0, 0), (134, .ifCond .ne 12, 137, 146, 0), (137, .aload_n 0, 138, 0, 0), (138, .iload 5, 140, 0, 0), (140, .invokevirtual 89, 143, 0, 0), (143, .ifCond .le 22, 146, 165, 0), (146, .iload 5, 148, 0, 0), (148, .iload_n 1, 149, 0, 0), (149, .if_icmp .le 12, 152, 161, 0), (152, .aload_n 0, 153, 0, 0), (153, .iload 5, 155, 0, 0), (155, .invokevirtual 89, 158, 0, 0), (158, .ifCond .ne 7, 161, 165, 0), (161, .iconst 1, 162, 0, 1), (162, .goto 4, 165, 166, 0), (165, .iconst 0, 166, 0, 0), (166, .istore 4, 168, 0, 0), (168, .iinc 5 1, 171, 0, 1), (171, .goto (-80), 174, 91, 0), (174, .iload 4, 176, 0, 0), (176, .ifCond .ne 5, 179, 181, 0), (179, .iconst 0, 180, 0, 0), (180, .ireturn, 181, 0, 0), (181, .aload_n 0, 182, 0, 0), (182, .getfield 23, 185, 0, 0), (185, .aload_n 0, 186, 0, 0), (186, .getfield 86, 189, 0, 0), (189, .iload_n 1, 190, 0, 0), (190, .iastore, 191, 0, 0), (191, .aload_n 0, 192, 0, 0), (192, .getfield 26, 195, 0, 0), (195, .aload_n 0, 196, 0, 0), (196, .getfield 86, 199, 0, 0), (199, .iload_n 2, 200, 0, 0), (200, .iastore, 201, 0, 0), (201, .aload_n 0, 202, 0, 0), (202, .getfield 29, 205, 0, 0), (205, .aload_n 0, 206, 0, 0), (206, .getfield 86, 209, 0, 0), (209, .aload_n 0, 210, 0, 0), (210, .getfield 35, 213, 0, 0), (213, .iastore, 214, 0, 0), (214, .aload_n 0, 215, 0, 0), (215, .dup, 216, 0, 0), (216, .getfield 86, 219, 0, 0), (219, .iconst 1, 220, 0, 1), (220, .iadd, 221, 0, 0), (221, .putfield 86, 224, 0, 0), (224, .iconst 1, 225, 0, 1), (225, .ireturn, 226, 0, 0)])
def mMo_has : ri_M := (5, ⟨"StripingModel", "has", "(I)I"⟩, prog_7_method_11_code, 4, (some .int), [(0, .iconst 0, 1, 0, 0), (1, .istore_n 2, 2, 0, 0), (2, .aload_n 0, 3, 0, 0), (3, .getfield 32, 6, 0, 0), (6, .aload_n 0, 7, 0, 0), (7, .getfield 83, 10, 0, 0), (10, .iaload, 11, 0, 0), (11, .istore_n 3, 12, 0, 0), (12, .iload_n 3, 13, 0, 0), (13, .aload_n 0, 14, 0, 0), (14, .getfield 86, 17, 0, 0), (17, .if_icmp .ge 40, 20, 57, 0), (20, .iload_n 2, 21, 0, 0), (21, .aload_n 0, 22, 0, 0), (22, .getfield 23, 25, 0, 0), (25, .iload_n 3, 26, 0, 0), (26, .iaload, 27, 0, 0), (27, .iload_n 1, 28, 0, 0), (28, .if_icmp .ne 20, 31, 48, 0), (31, .aload_n 0, 32, 0, 0), (32, .getfield 29, 35, 0, 0), (35, .iload_n 3, 36, 0, 0), (36, .iaload, 37, 0, 0), (37, .aload_n 0, 38, 0, 0), (38, .getfield 35, 41, 0, 0), (41, .if_icmp .ne 7, 44, 48, 0), (44, .iconst 1, 45, 0, 1), (45, .goto 4, 48, 49, 0), (48, .iconst 0, 49, 0, 0), (49, .iadd, 50, 0, 0), (50, .istore_n 2, 51, 0, 0), (51, .iinc 3 1, 54, 0, 1), (54, .goto (-42), 57, 12, 0), (57, .iload_n 2, 58, 0, 0), (58, .ireturn, 59, 0, 0)])
def mMo_leaf : ri_M := (5, ⟨"StripingModel", "leaf", "(II)Z"⟩, prog_7_method_14_code, 3, (some .boolean), [(0, .aload_n 0, 1, 0, 0), (1, .iload_n 1, 2, 0, 0), (2, .iload_n 2, 3, 0, 0), (3, .iconst 0, 4, 0, 0), (4, .invokevirtual 92, 7, 0, 0), (7, .ireturn, 8, 0, 0)])
def mMo_close : ri_M := (5, ⟨"StripingModel", "close", "()Z"⟩, prog_7_method_15_code, 3, (some .boolean), [(0, .aload_n 0, 1, 0, 0), (1, .getfield 80, 4, 0, 0), (4, .ifCond .ne 5, 7, 9, 0), (7, .iconst 0, 8, 0, 0), (8, .ireturn, 9, 0, 0), (9, .aload_n 0, 10, 0, 0), (10, .getfield 35, 13, 0, 0), (13, .iconst (-1), 14, 0, -1), (14, .if_icmp .ne 7, 17, 21, 0), (17, .iconst (-1), 18, 0, -1), (18, .goto 12, 21, 30, 0), (21, .aload_n 0, 22, 0, 0), (22, .getfield 23, 25, 0, 0), (25, .aload_n 0, 26, 0, 0), (26, .getfield 35, 29, 0, 0), (29, .iaload, 30, 0, 0), (30, .istore_n 1, 31, 0, 0), (31, .iconst 0, 32, 0, 0), (32, .istore_n 2, 33, 0, 0), (33, .iload_n 2, 34, 0, 0), (34, .aload_n 0, 35, 0, 0), (35, .getfield 54, 38, 0, 0), (38, .if_icmp .ge 38, 41, 76, 0), (41, .aload_n 0, 42, 0, 0), (42, .getfield 7, 45, 0, 0), (45, .iload_n 2, 46, 0, 0), (46, .iaload, 47, 0, 0), (47, .iload_n 1, 48, 0, 0), (48, .if_icmp .ne 22, 51, 70, 0), (51, .aload_n 0, 52, 0, 0), (52, .getfield 13, 55, 0, 0), (55, .iload_n 2, 56, 0, 0), (56, .iaload, 57, 0, 0), (57, .ifCond .ne 13, 60, 70, 0), (60, .aload_n 0, 61, 0, 0), (61, .iload_n 2, 62, 0, 0), (62, .invokevirtual 89, 65, 0, 0), (65, .ifCond .ne 5, 68, 70, 0), (68, .iconst 0, 69, 0, 0), (69, .ireturn, 70, 0, 0), (70, .iinc 2 1, 73, 0, 1), (73, .goto (-40), 76, 33, 0), (76, .aload_n 0, 77, 0, 0), (77, .getfield 35, 80, 0, 0), (80, .iconst (-1), 81, 0, -1), (81, .if_icmp .ne 34, 84, 115, 0), (84, .aload_n 0, 85, 0, 0), (85, .iconst 0, 86, 0, 0), (86, .putfield 80, 89, 0, 0), (89, .aload_n 0, 90, 0, 0), (90, .dup, 91, 0, 0), (91, .getfield 83, 94, 0, 0), (94, .iconst 1, 95, 0, 1), (95, .iadd, 96, 0, 0), (96, .putfield 83, 99, 0, 0), (99, .aload_n 0, 100, 0, 0), (100, .getfield 32, 103, 0, 0), (103, .aload_n 0, 104, 0, 0), (104, .getfield 83, 107, 0, 0), (107, .aload_n 0, 108, 0, 0), (108, .getfield 86, 111, 0, 0), (111, .iastore, 112, 0, 0), (112, .goto 16, 115, 128, 0), (115, .aload_n 0, 116, 0, 0), (116, .aload_n 0, 117, 0, 0), (117, .getfield 29, 120, 0, 0), (120, .aload_n 0, 121, 0, 0), (121, .getfield 35, 124, 0, 0), (124, .iaload, 125, 0, 0), (125, .putfield 35, 128, 0, 0), (128, .iconst 1, 129, 0, 1), (129, .ireturn, 130, 0, 0)])
def mMo_drop : ri_M := (5, ⟨"StripingModel", "drop", "()Z"⟩, prog_7_method_16_code, 1, (some .boolean), [(0, .aload_n 0, 1, 0, 0), (1, .getfield 80, 4, 0, 0), (4, .ifCond .ne 5, 7, 9, 0), (7, .iconst 0, 8, 0, 0), (8, .ireturn, 9, 0, 0), (9, .aload_n 0, 10, 0, 0), (10, .iconst 0, 11, 0, 0), (11, .putfield 80, 14, 0, 0), (14, .aload_n 0, 15, 0, 0), (15, .aload_n 0, 16, 0, 0), (16, .getfield 32, 19, 0, 0), (19, .aload_n 0, 20, 0, 0), (20, .getfield 83, 23, 0, 0), (23, .iaload, 24, 0, 0), (24, .putfield 86, 27, 0, 0), (27, .aload_n 0, 28, 0, 0), (28, .iconst (-1), 29, 0, -1), (29, .putfield 35, 32, 0, 0), (32, .iconst 1, 33, 0, 1), (33, .ireturn, 34, 0, 0)])
def mMo_records : ri_M := (5, ⟨"StripingModel", "records", "()I"⟩, prog_7_method_17_code, 1, (some .int), [(0, .aload_n 0, 1, 0, 0), (1, .getfield 83, 4, 0, 0), (4, .ireturn, 5, 0, 0)])
def mMo_entries : ri_M := (5, ⟨"StripingModel", "entries", "(I)I"⟩, prog_7_method_22_code, 2, (some .int), [(0, .aload_n 0, 1, 0, 0), (1, .iload_n 1, 2, 0, 0), (2, .invokevirtual 118, 5, 0, 0), (5, .ifCond .ne 5, 8, 10, 0), (8, .iconst (-1), 9, 0, -1), (9, .ireturn, 10, 0, 0), (10, .aload_n 0, 11, 0, 0), (11, .iconst (-1), 12, 0, -1), (12, .invokevirtual 121, 15, 0, 0), (15, .pop, 16, 0, 0), (16, .aload_n 0, 17, 0, 0), (17, .getfield 103, 20, 0, 0), (20, .ireturn, 21, 0, 0)])
def mMo_goesTo : ri_M := (5, ⟨"StripingModel", "goesTo", "(I)Z"⟩, prog_7_method_18_code, 5, (some .boolean), [(0, .iconst (-1), 1, 0, -1), (1, .istore_n 2, 2, 0, 0), (2, .iconst 0, 3, 0, 0), (3, .istore_n 3, 4, 0, 0), (4, .iload_n 3, 5, 0, 0), (5, .aload_n 0, 6, 0, 0), (6, .getfield 54, 9, 0, 0), (9, .if_icmp .ge 35, 12, 44, 0), (12, .aload_n 0, 13, 0, 0), (13, .getfield 57, 16, 0, 0), (16, .ifCond .eq 28, 19, 44, 0), (19, .iload_n 1, 20, 0, 0), (20, .ifCond .lt 16, 23, 36, 0), (23, .aload_n 0, 24, 0, 0), (24, .iload_n 3, 25, 0, 0), (25, .invokevirtual 76, 28, 0, 0), (28, .iload_n 1, 29, 0, 0), (29, .if_icmp .ne 7, 32, 36, 0), (32, .iload_n 3, 33, 0, 0), (33, .goto 4, 36, 37, 0), (36, .iload_n 2, 37, 0, 0), (37, .istore_n 2, 38, 0, 0), (38, .iinc 3 1, 41, 0, 1), (41, .goto (-37), 44, 4, 0), (44, .iload_n 2, 45, 0, 0), (45, .iconst (-1), 46, 0, -1), (46, .if_icmp .ne 5, 49, 51, 0), (49, .iconst 0, 50, 0, 0), (50, .ireturn, 51, 0, 0), (51, .aload_n 0, 52, 0, 0), (52, .aload_n 0, 53, 0, 0), (53, .getfield 16, 56, 0, 0), (56, .iload_n 2, 57, 0, 0), (57, .iaload, 58, 0, 0), (58, .putfield 96, 61, 0, 0), (61, .iload_n 2, 62, 0, 0), (62, .istore_n 3, 63, 0, 0), (63, .aload_n 0, 64, 0, 0), (64, .getfield 96, 67, 0, 0), (67, .iconst 1, 68, 0, 1), (68, .isub, 69, 0, 0), (69, .istore 4, 71, 0, 0), (71, .iload 4, 73, 0, 0), (73, .ifCond .lt 24, 76, 97, 0), (76, .aload_n 0, 77, 0, 0), (77, .getfield 39, 80, 0, 0), (80, .iload 4, 82, 0, 0), (82, .iload_n 3, 83, 0, 0), (83, .iastore, 84, 0, 0), (84, .aload_n 0, 85, 0, 0), (85, .getfield 7, 88, 0, 0), (88, .iload_n 3, 89, 0, 0), (89, .iaload, 90, 0, 0), (90, .istore_n 3, 91, 0, 0), (91, .iinc 4 (-1), 94, 0, -1), (94, .goto (-23), 97, 71, 0), (97, .iconst 1, 98, 0, 1), (98, .ireturn, 99, 0, 0)])
def mMo_finds : ri_M := (5, ⟨"StripingModel", "finds", "(I)Z"⟩, prog_7_method_21_code, 7, (some .boolean), [(0, .aload_n 0, 1, 0, 0), (1, .iconst 0, 2, 0, 0), (2, .putfield 103, 5, 0, 0), (5, .iconst 0, 6, 0, 0), (6, .istore_n 2, 7, 0, 0), (7, .iload_n 2, 8, 0, 0), (8, .aload_n 0, 9, 0, 0), (9, .getfield 83, 12, 0, 0), (12, .if_icmp .ge 233, 15, 245, 0), (15, .aload_n 0, 16, 0, 0), (16, .getfield 42, 19, 0, 0), (19, .iconst 0, 20, 0, 0), (20, .aload_n 0, 21, 0, 0), (21, .iload_n 2, 22, 0, 0), (22, .iconst 0, 23, 0, 0), (23, .aload_n 0, 24, 0, 0), (24, .getfield 32, 27, 0, 0), (27, .iload_n 2, 28, 0, 0), (28, .iaload, 29, 0, 0), (29, .invokevirtual 99, 32, 0, 0), (32, .iastore, 33, 0, 0), (33, .aload_n 0, 34, 0, 0), (34, .getfield 42, 37, 0, 0), (37, .iconst 0, 38, 0, 0), (38, .iaload, 39, 0, 0), (39, .iconst (-1), 40, 0, -1), (40, .if_icmp .ne 7, 43, 47, 0), (43, .iconst (-1), 44, 0, -1), (44, .goto 9, 47, 53, 0), (47, .aload_n 0, 48, 0, 0), (48, .iload_n 2, 49, 0, 0), (49, .iconst 0, 50, 0, 0), (50, .invokevirtual 106, 53, 0, 0), (53, .istore_n 3, 54, 0, 0), (54, .iconst 0, 55, 0, 0), (55, .istore 4, 57, 0, 0), (57, .iconst 1, 58, 0, 1), (58, .istore 5, 60, 0, 0), (60, .iload 5, 62, 0, 0), (62, .ifCond .eq 177, 65, 239, 0), (65, .aload_n 0, 66, 0, 0), (66, .getfield 103, 69, 0, 0), (69, .iload_n 1, 70, 0, 0), (70, .if_icmp .ne 64, 73, 134, 0), (73, .aload_n 0, 74, 0, 0), (74, .iload 4, 76, 0, 0), (76, .putfield 109, 79, 0, 0), (79, .aload_n 0, 80, 0, 0), (80, .iload_n 3, 81, 0, 0), (81, .iconst (-1), 82, 0, -1), (82, .if_icmp .ne 7, 85, 89, 0), (85, .iconst 0, 86, 0, 0), (86, .goto 14, 89, 100, 0), (89, .aload_n 0, 90, 0, 0), (90, .aload_n 0, 91, 0, 0), (91, .getfield 39, 94, 0, 0), (94, .iload_n 3, 95, 0, 0), (95, .iaload, 96, 0, 0), (96, .iconst 1, 97, 0, 1), (97, .invokevirtual 72, 100, 0, 0), (100, .putfield 112, 103, 0, 0), (103, .aload_n 0, 104, 0, 0), (104, .iload_n 3, 105, 0, 0), (105, .aload_n 0, 106, 0, 0), (106, .getfield 96, 109, 0, 0), (109, .iconst 1, 110, 0, 1), (110, .isub, 111, 0, 0), (111, .if_icmp .ne 17, 114, 128, 0), (114, .aload_n 0, 115, 0, 0), (115, .getfield 26, 118, 0, 0), (118, .aload_n 0, 119, 0, 0), (119, .getfield 42, 122, 0, 0), (122, .iload_n 3, 123, 0, 0), (123, .iaload, 124, 0, 0), (124, .iaload, 125, 0, 0), (125, .goto 4, 128, 129, 0), (128, .iconst 0, 129, 0, 0), (129, .putfield 115, 132, 0, 0), (132, .iconst 1, 133, 0, 1), (133, .ireturn, 134, 0, 0), (134, .aload_n 0, 135, 0, 0), (135, .dup, 136, 0, 0), (136, .getfield 103, 139, 0, 0), (139, .iconst 1, 140, 0, 1), (140, .iadd, 141, 0, 0), (141, .putfield 103, 144, 0, 0), (144, .iconst (-1), 145, 0, -1), (145, .istore 6, 147, 0, 0), (147, .iload_n 3, 148, 0, 0), (148, .ifCond .lt 42, 151, 190, 0), (151, .iload 6, 153, 0, 0), (153, .iconst (-1), 154, 0, -1), (154, .if_icmp .ne 36, 157, 190, 0), (157, .aload_n 0, 158, 0, 0), (158, .iload_n 2, 159, 0, 0), (159, .iload_n 3, 160, 0, 0), (160, .aload_n 0, 161, 0, 0), (161, .getfield 42, 164, 0, 0), (164, .iload_n 3, 165, 0, 0), (165, .iaload, 166, 0, 0), (166, .iconst 1, 167, 0, 1), (167, .iadd, 168, 0, 0), (168, .invokevirtual 99, 171, 0, 0), (171, .istore 6, 173, 0, 0), (173, .iload_n 3, 174, 0, 0), (174, .iload 6, 176, 0, 0), (176, .iconst (-1), 177, 0, -1), (177, .if_icmp .ne 7, 180, 184, 0), (180, .iconst 1, 181, 0, 1), (181, .goto 4, 184, 185, 0), (184, .iconst 0, 185, 0, 0), (185, .isub, 186, 0, 0), (186, .istore_n 3, 187, 0, 0), (187, .goto (-40), 190, 147, 0), (190, .iload 6, 192, 0, 0), (192, .iconst (-1), 193, 0, -1), (193, .if_icmp .eq 7, 196, 200, 0), (196, .iconst 1, 197, 0, 1), (197, .goto 4, 200, 201, 0), (200, .iconst 0, 201, 0, 0), (201, .istore 5, 203, 0, 0), (203, .iload 5, 205, 0, 0), (205, .ifCond .eq 31, 208, 236, 0), (208, .aload_n 0, 209, 0, 0), (209, .getfield 42, 212, 0, 0), (212, .iload_n 3, 213, 0, 0), (213, .iload 6, 215, 0, 0), (215, .iastore, 216, 0, 0), (216, .aload_n 0, 217, 0, 0), (217, .aload_n 0, 218, 0, 0), (218, .getfield 39, 221, 0, 0), (221, .iload_n 3, 222, 0, 0), (222, .iaload, 223, 0, 0), (223, .iconst 2, 224, 0, 2), (224, .invokevirtual 72, 227, 0, 0), (227, .istore 4, 229, 0, 0), (229, .aload_n 0, 230, 0, 0), (230, .iload_n 2, 231, 0, 0), (231, .iload_n 3, 232, 0, 0), (232, .invokevirtual 106, 235, 0, 0), (235, .istore_n 3, 236, 0, 0), (236, .goto (-176), 239, 60, 0), (239, .iinc 2 1, 242, 0, 1), (242, .goto (-235), 245, 7, 0), (245, .iconst 0, 246, 0, 0), (246, .ireturn, 247, 0, 0)])
def mMo_next : ri_M := (5, ⟨"StripingModel", "next", "(III)I"⟩, prog_7_method_19_code, 6, (some .int), [(0, .iload_n 2, 1, 0, 0), (1, .ifCond .ne 7, 4, 8, 0), (4, .iconst (-1), 5, 0, -1), (5, .goto 11, 8, 16, 0), (8, .aload_n 0, 9, 0, 0), (9, .getfield 42, 12, 0, 0), (12, .iload_n 2, 13, 0, 0), (13, .iconst 1, 14, 0, 1), (14, .isub, 15, 0, 0), (15, .iaload, 16, 0, 0), (16, .istore 4, 18, 0, 0), (18, .iload_n 3, 19, 0, 0), (19, .istore 5, 21, 0, 0), (21, .iload 5, 23, 0, 0), (23, .aload_n 0, 24, 0, 0), (24, .getfield 32, 27, 0, 0), (27, .iload_n 1, 28, 0, 0), (28, .iconst 1, 29, 0, 1), (29, .iadd, 30, 0, 0), (30, .iaload, 31, 0, 0), (31, .if_icmp .ge 40, 34, 71, 0), (34, .aload_n 0, 35, 0, 0), (35, .getfield 23, 38, 0, 0), (38, .iload 5, 40, 0, 0), (40, .iaload, 41, 0, 0), (41, .aload_n 0, 42, 0, 0), (42, .getfield 39, 45, 0, 0), (45, .iload_n 2, 46, 0, 0), (46, .iaload, 47, 0, 0), (47, .if_icmp .ne 18, 50, 65, 0), (50, .aload_n 0, 51, 0, 0), (51, .getfield 29, 54, 0, 0), (54, .iload 5, 56, 0, 0), (56, .iaload, 57, 0, 0), (57, .iload 4, 59, 0, 0), (59, .if_icmp .ne 6, 62, 65, 0), (62, .iload 5, 64, 0, 0), (64, .ireturn, 65, 0, 0), (65, .iinc 5 1, 68, 0, 1), (68, .goto (-47), 71, 21, 0), (71, .iconst (-1), 72, 0, -1), (72, .ireturn, 73, 0, 0)])
def mMo_deeper : ri_M := (5, ⟨"StripingModel", "deeper", "(II)I"⟩, prog_7_method_20_code, 4, (some .int), [(0, .iload_n 2, 1, 0, 0), (1, .istore_n 3, 2, 0, 0), (2, .iload_n 3, 3, 0, 0), (3, .iconst 1, 4, 0, 1), (4, .iadd, 5, 0, 0), (5, .aload_n 0, 6, 0, 0), (6, .getfield 96, 9, 0, 0), (9, .if_icmp .ge 47, 12, 56, 0), (12, .aload_n 0, 13, 0, 0), (13, .getfield 42, 16, 0, 0), (16, .iload_n 3, 17, 0, 0), (17, .iconst 1, 18, 0, 1), (18, .iadd, 19, 0, 0), (19, .aload_n 0, 20, 0, 0), (20, .iload_n 1, 21, 0, 0), (21, .iload_n 3, 22, 0, 0), (22, .iconst 1, 23, 0, 1), (23, .iadd, 24, 0, 0), (24, .aload_n 0, 25, 0, 0), (25, .getfield 42, 28, 0, 0), (28, .iload_n 3, 29, 0, 0), (29, .iaload, 30, 0, 0), (30, .iconst 1, 31, 0, 1), (31, .iadd, 32, 0, 0), (32, .invokevirtual 99, 35, 0, 0), (35, .iastore, 36, 0, 0), (36, .aload_n 0, 37, 0, 0), (37, .getfield 42, 40, 0, 0), (40, .iload_n 3, 41, 0, 0), (41, .iconst 1, 42, 0, 1), (42, .iadd, 43, 0, 0), (43, .iaload, 44, 0, 0), (44, .iconst (-1), 45, 0, -1), (45, .if_icmp .ne 5, 48, 50, 0), (48, .iload_n 3, 49, 0, 0), (49, .ireturn, 50, 0, 0), (50, .iinc 3 1, 53, 0, 1), (53, .goto (-51), 56, 2, 0), (56, .iload_n 3, 57, 0, 0), (57, .ireturn, 58, 0, 0)])
def mMo_entry : ri_M := (5, ⟨"StripingModel", "entry", "(III)I"⟩, prog_7_method_23_code, 4, (some .int), [(0, .aload_n 0, 1, 0, 0), (1, .iload_n 1, 2, 0, 0), (2, .invokevirtual 118, 5, 0, 0), (5, .ifCond .eq 15, 8, 20, 0), (8, .iload_n 2, 9, 0, 0), (9, .ifCond .lt 11, 12, 20, 0), (12, .aload_n 0, 13, 0, 0), (13, .iload_n 2, 14, 0, 0), (14, .invokevirtual 121, 17, 0, 0), (17, .ifCond .ne 5, 20, 22, 0), (20, .iconst (-1), 21, 0, -1), (21, .ireturn, 22, 0, 0), (22, .iload_n 3, 23, 0, 0), (23, .ifCond .ne 10, 26, 33, 0), (26, .aload_n 0, 27, 0, 0), (27, .getfield 109, 30, 0, 0), (30, .goto 28, 33, 58, 0), (33, .iload_n 3, 34, 0, 0), (34, .iconst 1, 35, 0, 1), (35, .if_icmp .ne 10, 38, 45, 0), (38, .aload_n 0, 39, 0, 0), (39, .getfield 112, 42, 0, 0), (42, .goto 16, 45, 58, 0), (45, .iload_n 3, 46, 0, 0), (46, .iconst 2, 47, 0, 2), (47, .if_icmp .ne 10, 50, 57, 0), (50, .aload_n 0, 51, 0, 0), (51, .getfield 115, 54, 0, 0), (54, .goto 4, 57, 58, 0), (57, .iconst (-1), 58, 0, -1), (58, .ireturn, 59, 0, 0)])
def mMo_assemble : ri_M := (5, ⟨"StripingModel", "assemble", "(III)I"⟩, prog_7_method_26_code, 6, (some .int), [(0, .aload_n 0, 1, 0, 0), (1, .iconst 0, 2, 0, 0), (2, .putfield 124, 5, 0, 0), (5, .iload_n 1, 6, 0, 0), (6, .ifCond .lt 11, 9, 17, 0), (9, .iload_n 1, 10, 0, 0), (10, .aload_n 0, 11, 0, 0), (11, .getfield 83, 14, 0, 0), (14, .if_icmp .lt 5, 17, 19, 0), (17, .iconst (-1), 18, 0, -1), (18, .ireturn, 19, 0, 0), (19, .aload_n 0, 20, 0, 0), (20, .iload_n 2, 21, 0, 0), (21, .iload_n 3, 22, 0, 0), (22, .invokevirtual 127, 25, 0, 0), (25, .iconst (-1), 26, 0, -1), (26, .istore 4, 28, 0, 0), (28, .aload_n 0, 29, 0, 0), (29, .getfield 32, 32, 0, 0), (32, .iload_n 1, 33, 0, 0), (33, .iaload, 34, 0, 0), (34, .istore 5, 36, 0, 0), (36, .iload 5, 38, 0, 0), (38, .aload_n 0, 39, 0, 0), (39, .getfield 32, 42, 0, 0), (42, .iload_n 1, 43, 0, 0), (43, .iconst 1, 44, 0, 1), (44, .iadd, 45, 0, 0), (45, .iaload, 46, 0, 0), (46, .if_icmp .ge 111, 49, 157, 0), (49, .aload_n 0, 50, 0, 0), (50, .getfield 45, 53, 0, 0), (53, .aload_n 0, 54, 0, 0), (54, .getfield 23, 57, 0, 0), (57, .iload 5, 59, 0, 0), (59, .iaload, 60, 0, 0), (60, .baload, 61, 0, 0), (61, .ifCond .ne 6, 64, 67, 0), (64, .goto 87, 67, 151, 0), (67, .iload 4, 69, 0, 0), (69, .aload_n 0, 70, 0, 0), (70, .getfield 29, 73, 0, 0), (73, .iload 5, 75, 0, 0), (75, .iaload, 76, 0, 0), (76, .if_icmp .eq 31, 79, 107, 0), (79, .aload_n 0, 80, 0, 0), (80, .iconst 2, 81, 0, 2), (81, .aload_n 0, 82, 0, 0), (82, .getfield 23, 85, 0, 0), (85, .iload 4, 87, 0, 0), (87, .iaload, 88, 0, 0), (88, .imul, 89, 0, 0), (89, .iconst 1, 90, 0, 1), (90, .iadd, 91, 0, 0), (91, .iconst 0, 92, 0, 0), (92, .invokevirtual 131, 95, 0, 0), (95, .aload_n 0, 96, 0, 0), (96, .getfield 29, 99, 0, 0), (99, .iload 4, 101, 0, 0), (101, .iaload, 102, 0, 0), (102, .istore 4, 104, 0, 0), (104, .goto (-37), 107, 67, 0), (107, .aload_n 0, 108, 0, 0), (108, .iconst 2, 109, 0, 2), (109, .aload_n 0, 110, 0, 0), (110, .getfield 23, 113, 0, 0), (113, .iload 5, 115, 0, 0), (115, .iaload, 116, 0, 0), (116, .imul, 117, 0, 0), (117, .aload_n 0, 118, 0, 0), (118, .getfield 26, 121, 0, 0), (121, .iload 5, 123, 0, 0), (123, .iaload, 124, 0, 0), (124, .invokevirtual 131, 127, 0, 0), (127, .aload_n 0, 128, 0, 0), (128, .getfield 19, 131, 0, 0), (131, .aload_n 0, 132, 0, 0), (132, .getfield 23, 135, 0, 0), (135, .iload 5, 137, 0, 0), (137, .iaload, 138, 0, 0), (138, .baload, 139, 0, 0), (139, .ifCond .eq 8, 142, 147, 0), (142, .iload 5, 144, 0, 0), (144, .goto 5, 147, 149, 0), (147, .iload 4, 149, 0, 0), (149, .istore 4, 151, 0, 0), (151, .iinc 5 1, 154, 0, 1), (154, .goto (-118), 157, 36, 0), (157, .iload 4, 159, 0, 0), (159, .iconst (-1), 160, 0, -1), (160, .if_icmp .eq 31, 163, 191, 0), (163, .aload_n 0, 164, 0, 0), (164, .iconst 2, 165, 0, 2), (165, .aload_n 0, 166, 0, 0), (166, .getfield 23, 169, 0, 0), (169, .iload 4, 171, 0, 0), (171, .iaload, 172, 0, 0), (172, .imul, 173, 0, 0), (173, .iconst 1, 174, 0, 1), (174, .iadd, 175, 0, 0), (175, .iconst 0, 176, 0, 0), (176, .invokevirtual 131, 179, 0, 0), (179, .aload_n 0, 180, 0, 0), (180, .getfield 29, 183, 0, 0), (183, .iload 4, 185, 0, 0), (185, .iaload, 186, 0, 0), (186, .istore 4, 188, 0, 0), (188, .goto (-31), 191, 157, 0), (191, .aload_n 0, 192, 0, 0), (192, .getfield 124, 195, 0, 0), (195, .ireturn, 196, 0, 0)])
def mMo_wants : ri_M := (5, ⟨"StripingModel", "wants", "(II)V"⟩, prog_7_method_25_code, 7, (none), [(0, .iconst 0, 1, 0, 0), (1, .istore_n 3, 2, 0, 0), (2, .iload_n 3, 3, 0, 0), (3, .aload_n 0, 4, 0, 0), (4, .getfield 54, 7, 0, 0), (7, .if_icmp .ge 16, 10, 23, 0), (10, .aload_n 0, 11, 0, 0), (11, .getfield 45, 14, 0, 0), (14, .iload_n 3, 15, 0, 0), (15, .iconst 0, 16, 0, 0), (16, .bastore, 17, 0, 0), (17, .iinc 3 1, 20, 0, 1), (20, .goto (-18), 23, 2, 0), (23, .iconst 0, 24, 0, 0), (24, .istore_n 3, 25, 0, 0), (25, .iload_n 3, 26, 0, 0), (26, .aload_n 0, 27, 0, 0), (27, .getfield 54, 30, 0, 0), (30, .if_icmp .ge 90, 33, 120, 0), (33, .aload_n 0, 34, 0, 0), (34, .iload_n 3, 35, 0, 0), (35, .invokevirtual 76, 38, 0, 0), (38, .istore 4, 40, 0, 0), (40, .iload 4, 42, 0, 0), (42, .iconst (-1), 43, 0, -1), (43, .if_icmp .eq 34, 46, 77, 0), (46, .iload 4, 48, 0, 0), (48, .bipush 32, 50, 0, 32), (50, .if_icmp .ge 10, 53, 60, 0), (53, .iload_n 1, 54, 0, 0), (54, .iload 4, 56, 0, 0), (56, .ishr, 57, 0, 0), (57, .goto 10, 60, 67, 0), (60, .iload_n 2, 61, 0, 0), (61, .iload 4, 63, 0, 0), (63, .bipush 32, 65, 0, 32), (65, .isub, 66, 0, 0), (66, .ishr, 67, 0, 0), (67, .iconst 1, 68, 0, 1), (68, .iand, 69, 0, 0), (69, .iconst 1, 70, 0, 1), (70, .if_icmp .ne 7, 73, 77, 0), (73, .iconst 1, 74, 0, 1), (74, .goto 4, 77, 78, 0), (77, .iconst 0, 78, 0, 0), (78, .istore 5, 80, 0, 0), (80, .iload_n 3, 81, 0, 0), (81, .istore 6, 83, 0, 0), (83, .iload 6, 85, 0, 0), (85, .iconst (-1), 86, 0, -1), (86, .if_icmp .eq 28, 89, 114, 0), (89, .iload 5, 91, 0, 0), (91, .ifCond .eq 23, 94, 114, 0), (94, .aload_n 0, 95, 0, 0), (95, .getfield 45, 98, 0, 0), (98, .iload 6, 100, 0, 0), (100, .iconst 1, 101, 0, 1), (101, .bastore, 102, 0, 0), (102, .aload_n 0, 103, 0, 0), (103, .getfield 7, 106, 0, 0), (106, .iload 6, 108, 0, 0), (108, .iaload, 109, 0, 0), (109, .istore 6, 111, 0, 0), (111, .goto (-28), 114, 83, 0), (114, .iinc 3 1, 117, 0, 1), (117, .goto (-92), 120, 25, 0), (120, .return_, 121, 0, 0)])
def mMo_tells : ri_M := (5, ⟨"StripingModel", "tells", "(II)V"⟩, prog_7_method_24_code, 3, (none), [(0, .aload_n 0, 1, 0, 0), (1, .getfield 48, 4, 0, 0), (4, .aload_n 0, 5, 0, 0), (5, .getfield 124, 8, 0, 0), (8, .iload_n 1, 9, 0, 0), (9, .iastore, 10, 0, 0), (10, .aload_n 0, 11, 0, 0), (11, .getfield 51, 14, 0, 0), (14, .aload_n 0, 15, 0, 0), (15, .getfield 124, 18, 0, 0), (18, .iload_n 2, 19, 0, 0), (19, .iastore, 20, 0, 0), (20, .aload_n 0, 21, 0, 0), (21, .dup, 22, 0, 0), (22, .getfield 124, 25, 0, 0), (25, .iconst 1, 26, 0, 1), (26, .iadd, 27, 0, 0), (27, .putfield 124, 30, 0, 0), (30, .return_, 31, 0, 0)])
def mMo_event : ri_M := (5, ⟨"StripingModel", "event", "(II)I"⟩, prog_7_method_27_code, 3, (some .int), [(0, .iload_n 1, 1, 0, 0), (1, .ifCond .lt 11, 4, 12, 0), (4, .iload_n 1, 5, 0, 0), (5, .aload_n 0, 6, 0, 0), (6, .getfield 124, 9, 0, 0), (9, .if_icmp .lt 5, 12, 14, 0), (12, .iconst (-1), 13, 0, -1), (13, .ireturn, 14, 0, 0), (14, .iload_n 2, 15, 0, 0), (15, .ifCond .ne 12, 18, 27, 0), (18, .aload_n 0, 19, 0, 0), (19, .getfield 48, 22, 0, 0), (22, .iload_n 1, 23, 0, 0), (23, .iaload, 24, 0, 0), (24, .goto 18, 27, 42, 0), (27, .iload_n 2, 28, 0, 0), (28, .iconst 1, 29, 0, 1), (29, .if_icmp .ne 12, 32, 41, 0), (32, .aload_n 0, 33, 0, 0), (33, .getfield 51, 36, 0, 0), (36, .iload_n 1, 37, 0, 0), (37, .iaload, 38, 0, 0), (38, .goto 4, 41, 42, 0), (41, .iconst (-1), 42, 0, -1), (42, .ireturn, 43, 0, 0)])
def mLa_law : ri_M := (6, ⟨"StripingLaw", "law", "([I)Z"⟩, code, 4, (some .boolean), [(0, .new 7, 3, 0, 0), (3, .dup, 4, 0, 0), (4, .invokespecial 9, 7, 0, 0), (7, .astore_n 1, 8, 0, 0), (8, .new 10, 11, 0, 0), (11, .dup, 12, 0, 0), (12, .invokespecial 12, 15, 0, 0), (15, .astore_n 2, 16, 0, 0), (16, .iconst 0, 17, 0, 0), (17, .istore_n 3, 18, 0, 0), (18, .iload_n 3, 19, 0, 0), (19, .aload_n 0, 20, 0, 0), (20, .arraylength, 21, 0, 0), (21, .iconst 4, 22, 0, 4), (22, .isub, 23, 0, 0), (23, .if_icmp .gt 438, 26, 461, 0), (26, .aload_n 0, 27, 0, 0), (27, .iload_n 3, 28, 0, 0), (28, .iaload, 29, 0, 0), (29, .bipush 15, 31, 0, 15), (31, .iand, 32, 0, 0), (32, .tableswitch 423 0 12 #[68, 127, 140, 153, 176, 209, 222, 235, 248, 281, 304, 347, 390], 100, 455, 32), (100, .aload_n 1, 101, 0, 0), (101, .aload_n 0, 102, 0, 0), (102, .iload_n 3, 103, 0, 0), (103, .iconst 1, 104, 0, 1), (104, .iadd, 105, 0, 0), (105, .iaload, 106, 0, 0), (106, .aload_n 0, 107, 0, 0), (107, .iload_n 3, 108, 0, 0), (108, .iconst 2, 109, 0, 2), (109, .iadd, 110, 0, 0), (110, .iaload, 111, 0, 0), (111, .aload_n 0, 112, 0, 0), (112, .iload_n 3, 113, 0, 0), (113, .iconst 3, 114, 0, 3), (114, .iadd, 115, 0, 0), (115, .iaload, 116, 0, 0), (116, .ifCond .eq 7, 119, 123, 0), (119, .iconst 1, 120, 0, 1), (120, .goto 4, 123, 124, 0), (123, .iconst 0, 124, 0, 0), (124, .invokevirtual 13, 127, 0, 0), (127, .pop, 128, 0, 0), (128, .aload_n 2, 129, 0, 0), (129, .aload_n 0, 130, 0, 0), (130, .iload_n 3, 131, 0, 0), (131, .iconst 1, 132, 0, 1), (132, .iadd, 133, 0, 0), (133, .iaload, 134, 0, 0), (134, .aload_n 0, 135, 0, 0), (135, .iload_n 3, 136, 0, 0), (136, .iconst 2, 137, 0, 2), (137, .iadd, 138, 0, 0), (138, .iaload, 139, 0, 0), (139, .aload_n 0, 140, 0, 0), (140, .iload_n 3, 141, 0, 0), (141, .iconst 3, 142, 0, 3), (142, .iadd, 143, 0, 0), (143, .iaload, 144, 0, 0), (144, .ifCond .eq 7, 147, 151, 0), (147, .iconst 1, 148, 0, 1), (148, .goto 4, 151, 152, 0), (151, .iconst 0, 152, 0, 0), (152, .invokevirtual 17, 155, 0, 0), (155, .pop, 156, 0, 0), (156, .goto 299, 159, 455, 0), (159, .aload_n 1, 160, 0, 0), (160, .invokevirtual 18, 163, 0, 0), (163, .pop, 164, 0, 0), (164, .aload_n 2, 165, 0, 0), (165, .invokevirtual 22, 168, 0, 0), (168, .pop, 169, 0, 0), (169, .goto 286, 172, 455, 0), (172, .aload_n 1, 173, 0, 0), (173, .invokevirtual 23, 176, 0, 0), (176, .pop, 177, 0, 0), (177, .aload_n 2, 178, 0, 0), (178, .invokevirtual 27, 181, 0, 0), (181, .pop, 182, 0, 0), (182, .goto 273, 185, 455, 0), (185, .aload_n 1, 186, 0, 0), (186, .aload_n 0, 187, 0, 0), (187, .iload_n 3, 188, 0, 0), (188, .iconst 1, 189, 0, 1), (189, .iadd, 190, 0, 0), (190, .iaload, 191, 0, 0), (191, .invokevirtual 28, 194, 0, 0), (194, .pop, 195, 0, 0), (195, .aload_n 2, 196, 0, 0), (196, .aload_n 0, 197, 0, 0), (197, .iload_n 3, 198, 0, 0), (198, .iconst 1, 199, 0, 1), (199, .iadd, 200, 0, 0), (200, .iaload, 201, 0, 0), (201, .invokevirtual 32, 204, 0, 0), (204, .pop, 205, 0, 0), (205, .goto 250, 208, 455, 0), (208, .aload_n 1, 209, 0, 0), (209, .aload_n 0, 210, 0, 0), (210, .iload_n 3, 211, 0, 0), (211, .iconst 1, 212, 0, 1), (212, .iadd, 213, 0, 0), (213, .iaload, 214, 0, 0), (214, .aload_n 0, 215, 0, 0), (215, .iload_n 3, 216, 0, 0), (216, .iconst 2, 217, 0, 2), (217, .iadd, 218, 0, 0), (218, .iaload, 219, 0, 0), (219, .invokevirtual 33, 222, 0, 0), (222, .pop, 223, 0, 0), (223, .aload_n 2, 224, 0, 0), (224, .aload_n 0, 225, 0, 0), (225, .iload_n 3, 226, 0, 0), (226, .iconst 1, 227, 0, 1), (227, .iadd, 228, 0, 0), (228, .iaload, 229, 0, 0), (229, .aload_n 0, 230, 0, 0), (230, .iload_n 3, 231, 0, 0), (231, .iconst 2, 232, 0, 2), (232, .iadd, 233, 0, 0), (233, .iaload, 234, 0, 0), (234, .invokevirtual 37, 237, 0, 0), (237, .pop, 238, 0, 0), (238, .goto 217, 241, 455, 0), (241, .aload_n 1, 242, 0, 0), (242, .invokevirtual 38, 245, 0, 0), (245, .aload_n 2, 246, 0, 0), (246, .invokevirtual 41, 249, 0, 0), (249, .if_icmp .eq 206, 252, 455, 0), (252, .iconst 0, 253, 0, 0), (253, .ireturn, 254, 0, 0), (254, .aload_n 1, 255, 0, 0), (255, .invokevirtual 42, 258, 0, 0), (258, .pop, 259, 0, 0), (259, .aload_n 2, 260, 0, 0), (260, .invokevirtual 45, 263, 0, 0), (263, .pop, 264, 0, 0), (264, .goto 191, 267, 455, 0), (267, .aload_n 1, 268, 0, 0), (268, .invokevirtual 46, 271, 0, 0), (271, .pop, 272, 0, 0), (272, .aload_n 2, 273, 0, 0), (273, .invokevirtual 49, 276, 0, 0), (276, .pop, 277, 0, 0), (277, .goto 178, 280, 455, 0), (280, .aload_n 1, 281, 0, 0), (281, .aload_n 0, 282, 0, 0), (282, .iload_n 3, 283, 0, 0), (283, .iconst 1, 284, 0, 1), (284, .iadd, 285, 0, 0), (285, .iaload, 286, 0, 0), (286, .aload_n 0, 287, 0, 0), (287, .iload_n 3, 288, 0, 0), (288, .iconst 2, 289, 0, 2), (289, .iadd, 290, 0, 0), (290, .iaload, 291, 0, 0), (291, .invokevirtual 50, 294, 0, 0), (294, .pop, 295, 0, 0), (295, .aload_n 2, 296, 0, 0), (296, .aload_n 0, 297, 0, 0), (297, .iload_n 3, 298, 0, 0), (298, .iconst 1, 299, 0, 1), (299, .iadd, 300, 0, 0), (300, .iaload, 301, 0, 0), (301, .aload_n 0, 302, 0, 0), (302, .iload_n 3, 303, 0, 0), (303, .iconst 2, 304, 0, 2), (304, .iadd, 305, 0, 0), (305, .iaload, 306, 0, 0), (306, .invokevirtual 54, 309, 0, 0), (309, .pop, 310, 0, 0), (310, .goto 145, 313, 455, 0), (313, .aload_n 1, 314, 0, 0), (314, .aload_n 0, 315, 0, 0), (315, .iload_n 3, 316, 0, 0), (316, .iconst 1, 317, 0, 1), (317, .iadd, 318, 0, 0), (318, .iaload, 319, 0, 0), (319, .invokevirtual 55, 322, 0, 0), (322, .pop, 323, 0, 0), (323, .aload_n 2, 324, 0, 0), (324, .aload_n 0, 325, 0, 0), (325, .iload_n 3, 326, 0, 0), (326, .iconst 1, 327, 0, 1), (327, .iadd, 328, 0, 0), (328, .iaload, 329, 0, 0), (329, .invokevirtual 59, 332, 0, 0), (332, .pop, 333, 0, 0), (333, .goto 122, 336, 455, 0), (336, .aload_n 1, 337, 0, 0), (337, .aload_n 0, 338, 0, 0), (338, .iload_n 3, 339, 0, 0), (339, .iconst 1, 340, 0, 1), (340, .iadd, 341, 0, 0), (341, .iaload, 342, 0, 0), (342, .aload_n 0, 343, 0, 0), (343, .iload_n 3, 344, 0, 0), (344, .iconst 2, 345, 0, 2), (345, .iadd, 346, 0, 0), (346, .iaload, 347, 0, 0), (347, .aload_n 0, 348, 0, 0), (348, .iload_n 3, 349, 0, 0), (349, .iconst 3, 350, 0, 3), (350, .iadd, 351, 0, 0), (351, .iaload, 352, 0, 0), (352, .invokevirtual 60, 355, 0, 0), (355, .pop, 356, 0, 0), (356, .aload_n 2, 357, 0, 0), (357, .aload_n 0, 358, 0, 0), (358, .iload_n 3, 359, 0, 0), (359, .iconst 1, 360, 0, 1), (360, .iadd, 361, 0, 0), (361, .iaload, 362, 0, 0), (362, .aload_n 0, 363, 0, 0), (363, .iload_n 3, 364, 0, 0), (364, .iconst 2, 365, 0, 2), (365, .iadd, 366, 0, 0), (366, .iaload, 367, 0, 0), (367, .aload_n 0, 368, 0, 0), (368, .iload_n 3, 369, 0, 0), (369, .iconst 3, 370, 0, 3), (370, .iadd, 371, 0, 0), (371, .iaload, 372, 0, 0), (372, .invokevirtual 64, 375, 0, 0), (375, .pop, 376, 0, 0), (376, .goto 79, 379, 455, 0), (379, .aload_n 1, 380, 0, 0), (380, .aload_n 0, 381, 0, 0), (381, .iload_n 3, 382, 0, 0), (382, .iconst 1, 383, 0, 1), (383, .iadd, 384, 0, 0), (384, .iaload, 385, 0, 0), (385, .aload_n 0, 386, 0, 0), (386, .iload_n 3, 387, 0, 0), (387, .iconst 2, 388, 0, 2), (388, .iadd, 389, 0, 0), (389, .iaload, 390, 0, 0), (390, .aload_n 0, 391, 0, 0), (391, .iload_n 3, 392, 0, 0), (392, .iconst 3, 393, 0, 3), (393, .iadd, 394, 0, 0), (394, .iaload, 395, 0, 0), (395, .invokevirtual 65, 398, 0, 0), (398, .pop, 399, 0, 0), (399, .aload_n 2, 400, 0, 0), (400, .aload_n 0, 401, 0, 0), (401, .iload_n 3, 402, 0, 0), (402, .iconst 1, 403, 0, 1), (403, .iadd, 404, 0, 0), (404, .iaload, 405, 0, 0), (405, .aload_n 0, 406, 0, 0), (406, .iload_n 3, 407, 0, 0), (407, .iconst 2, 408, 0, 2), (408, .iadd, 409, 0, 0), (409, .iaload, 410, 0, 0), (410, .aload_n 0, 411, 0, 0), (411, .iload_n 3, 412, 0, 0), (412, .iconst 3, 413, 0, 3), (413, .iadd, 414, 0, 0), (414, .iaload, 415, 0, 0), (415, .invokevirtual 68, 418, 0, 0), (418, .pop, 419, 0, 0), (419, .goto 36, 422, 455, 0), (422, .aload_n 1, 423, 0, 0), (423, .aload_n 0, 424, 0, 0), (424, .iload_n 3, 425, 0, 0), (425, .iconst 1, 426, 0, 1), (426, .iadd, 427, 0, 0), (427, .iaload, 428, 0, 0), (428, .aload_n 0, 429, 0, 0), (429, .iload_n 3, 430, 0, 0), (430, .iconst 2, 431, 0, 2), (431, .iadd, 432, 0, 0), (432, .iaload, 433, 0, 0), (433, .invokevirtual 69, 436, 0, 0), (436, .pop, 437, 0, 0), (437, .aload_n 2, 438, 0, 0), (438, .aload_n 0, 439, 0, 0), (439, .iload_n 3, 440, 0, 0), (440, .iconst 1, 441, 0, 1), (441, .iadd, 442, 0, 0), (442, .iaload, 443, 0, 0), (443, .aload_n 0, 444, 0, 0), (444, .iload_n 3, 445, 0, 0), (445, .iconst 2, 446, 0, 2), (446, .iadd, 447, 0, 0), (447, .iaload, 448, 0, 0), (448, .invokevirtual 72, 451, 0, 0), (451, .pop, 452, 0, 0), (452, .goto 3, 455, 455, 0), (455, .iinc 3 4, 458, 0, 4), (458, .goto (-440), 461, 18, 0), (461, .iconst 1, 462, 0, 1), (462, .ireturn, 463, 0, 0)])
end
section
/-! The instructions are those of the bytes (written by gen03.py) -/
set_option maxRecDepth 100000 in
theorem mSt_init_c : ri_cks mSt_init.2.2.1 mSt_init.2.2.2.2.2 = true := by decide +kernel
set_option maxRecDepth 100000 in
theorem mSc_init_c : ri_cks mSc_init.2.2.1 mSc_init.2.2.2.2.2 = true := by decide +kernel
set_option maxRecDepth 100000 in
theorem mDr_init_c : ri_cks mDr_init.2.2.1 mDr_init.2.2.2.2.2 = true := by decide +kernel
set_option maxRecDepth 100000 in
theorem mEv_init_c : ri_cks mEv_init.2.2.1 mEv_init.2.2.2.2.2 = true := by decide +kernel
set_option maxRecDepth 100000 in
theorem mCo_init_c : ri_cks mCo_init.2.2.1 mCo_init.2.2.2.2.2 = true := by decide +kernel
set_option maxRecDepth 100000 in
theorem mSt_field_c : ri_cks mSt_field.2.2.1 mSt_field.2.2.2.2.2 = true := by decide +kernel
set_option maxRecDepth 100000 in
theorem mSc_add_c : ri_cks mSc_add.2.2.1 mSc_add.2.2.2.2.2 = true := by decide +kernel
set_option maxRecDepth 100000 in
theorem mSc_mayHold_c : ri_cks mSc_mayHold.2.2.1 mSc_mayHold.2.2.2.2.2 = true := by decide +kernel
set_option maxRecDepth 100000 in
theorem mSc_isGroup_c : ri_cks mSc_isGroup.2.2.1 mSc_isGroup.2.2.2.2.2 = true := by decide +kernel
set_option maxRecDepth 100000 in
theorem mSc_has_c : ri_cks mSc_has.2.2.1 mSc_has.2.2.2.2.2 = true := by decide +kernel
set_option maxRecDepth 100000 in
theorem mSc_depthOf_c : ri_cks mSc_depthOf.2.2.1 mSc_depthOf.2.2.2.2.2 = true := by decide +kernel
set_option maxRecDepth 100000 in
theorem mSc_repetitionOf_c : ri_cks mSc_repetitionOf.2.2.1 mSc_repetitionOf.2.2.2.2.2 = true := by decide +kernel
set_option maxRecDepth 100000 in
theorem mSc_definitionOf_c : ri_cks mSc_definitionOf.2.2.1 mSc_definitionOf.2.2.2.2.2 = true := by decide +kernel
set_option maxRecDepth 100000 in
theorem mSc_stretch_c : ri_cks mSc_stretch.2.2.1 mSc_stretch.2.2.2.2.2 = true := by decide +kernel
set_option maxRecDepth 100000 in
theorem mSt_ready_c : ri_cks mSt_ready.2.2.1 mSt_ready.2.2.2.2.2 = true := by decide +kernel
set_option maxRecDepth 100000 in
theorem mSc_settle_c : ri_cks mSc_settle.2.2.1 mSc_settle.2.2.2.2.2 = true := by decide +kernel
set_option maxRecDepth 100000 in
theorem mSt_begin_c : ri_cks mSt_begin.2.2.1 mSt_begin.2.2.2.2.2 = true := by decide +kernel
set_option maxRecDepth 100000 in
theorem mDr_start_c : ri_cks mDr_start.2.2.1 mDr_start.2.2.2.2.2 = true := by decide +kernel
set_option maxRecDepth 100000 in
theorem mDr_clear_c : ri_cks mDr_clear.2.2.1 mDr_clear.2.2.2.2.2 = true := by decide +kernel
set_option maxRecDepth 100000 in
theorem mSt_open_c : ri_cks mSt_open.2.2.1 mSt_open.2.2.2.2.2 = true := by decide +kernel
set_option maxRecDepth 100000 in
theorem mSt_mayCome_c : ri_cks mSt_mayCome.2.2.1 mSt_mayCome.2.2.2.2.2 = true := by decide +kernel
set_option maxRecDepth 100000 in
theorem mSc_parentOf_c : ri_cks mSc_parentOf.2.2.1 mSc_parentOf.2.2.2.2.2 = true := by decide +kernel
set_option maxRecDepth 100000 in
theorem mDr_group_c : ri_cks mDr_group.2.2.1 mDr_group.2.2.2.2.2 = true := by decide +kernel
set_option maxRecDepth 100000 in
theorem mDr_newest_c : ri_cks mDr_newest.2.2.1 mDr_newest.2.2.2.2.2 = true := by decide +kernel
set_option maxRecDepth 100000 in
theorem mSc_kindOf_c : ri_cks mSc_kindOf.2.2.1 mSc_kindOf.2.2.2.2.2 = true := by decide +kernel
set_option maxRecDepth 100000 in
theorem mSc_requires_c : ri_cks mSc_requires.2.2.1 mSc_requires.2.2.2.2.2 = true := by decide +kernel
set_option maxRecDepth 100000 in
theorem mDr_add_c : ri_cks mDr_add.2.2.1 mDr_add.2.2.2.2.2 = true := by decide +kernel
set_option maxRecDepth 100000 in
theorem mSt_withRoom_c : ri_cks mSt_withRoom.2.2.1 mSt_withRoom.2.2.2.2.2 = true := by decide +kernel
set_option maxRecDepth 100000 in
theorem mAr_copyOf_c : ri_cks mAr_copyOf.2.2.1 mAr_copyOf.2.2.2.2.2 = true := by decide +kernel
set_option maxRecDepth 100000 in
theorem mDr_enter_c : ri_cks mDr_enter.2.2.1 mDr_enter.2.2.2.2.2 = true := by decide +kernel
set_option maxRecDepth 100000 in
theorem mSt_leaf_c : ri_cks mSt_leaf.2.2.1 mSt_leaf.2.2.2.2.2 = true := by decide +kernel
set_option maxRecDepth 100000 in
theorem mSc_isLeaf_c : ri_cks mSc_isLeaf.2.2.1 mSc_isLeaf.2.2.2.2.2 = true := by decide +kernel
set_option maxRecDepth 100000 in
theorem mSt_close_c : ri_cks mSt_close.2.2.1 mSt_close.2.2.2.2.2 = true := by decide +kernel
set_option maxRecDepth 100000 in
theorem mSc_endOf_c : ri_cks mSc_endOf.2.2.1 mSc_endOf.2.2.2.2.2 = true := by decide +kernel
set_option maxRecDepth 100000 in
theorem mDr_leave_c : ri_cks mDr_leave.2.2.1 mDr_leave.2.2.2.2.2 = true := by decide +kernel
set_option maxRecDepth 100000 in
theorem mSt_keepRecord_c : ri_cks mSt_keepRecord.2.2.1 mSt_keepRecord.2.2.2.2.2 = true := by decide +kernel
set_option maxRecDepth 100000 in
theorem mSt_takeFields_c : ri_cks mSt_takeFields.2.2.1 mSt_takeFields.2.2.2.2.2 = true := by decide +kernel
set_option maxRecDepth 100000 in
theorem mSt_takeField_c : ri_cks mSt_takeField.2.2.1 mSt_takeField.2.2.2.2.2 = true := by decide +kernel
set_option maxRecDepth 100000 in
theorem mDr_fieldAt_c : ri_cks mDr_fieldAt.2.2.1 mDr_fieldAt.2.2.2.2.2 = true := by decide +kernel
set_option maxRecDepth 100000 in
theorem mSt_addEmptyEntries_c : ri_cks mSt_addEmptyEntries.2.2.1 mSt_addEmptyEntries.2.2.2.2.2 = true := by decide +kernel
set_option maxRecDepth 100000 in
theorem mSc_columnsIn_c : ri_cks mSc_columnsIn.2.2.1 mSc_columnsIn.2.2.2.2.2 = true := by decide +kernel
set_option maxRecDepth 100000 in
theorem mSt_holds_c : ri_cks mSt_holds.2.2.1 mSt_holds.2.2.2.2.2 = true := by decide +kernel
set_option maxRecDepth 100000 in
theorem mCo_add_c : ri_cks mCo_add.2.2.1 mCo_add.2.2.2.2.2 = true := by decide +kernel
set_option maxRecDepth 100000 in
theorem mCo_has_c : ri_cks mCo_has.2.2.1 mCo_has.2.2.2.2.2 = true := by decide +kernel
set_option maxRecDepth 100000 in
theorem mSt_takeOccurrence_c : ri_cks mSt_takeOccurrence.2.2.1 mSt_takeOccurrence.2.2.2.2.2 = true := by decide +kernel
set_option maxRecDepth 100000 in
theorem mDr_valueAt_c : ri_cks mDr_valueAt.2.2.1 mDr_valueAt.2.2.2.2.2 = true := by decide +kernel
set_option maxRecDepth 100000 in
theorem mSc_columnOf_c : ri_cks mSc_columnOf.2.2.1 mSc_columnOf.2.2.2.2.2 = true := by decide +kernel
set_option maxRecDepth 100000 in
theorem mSt_drop_c : ri_cks mSt_drop.2.2.1 mSt_drop.2.2.2.2.2 = true := by decide +kernel
set_option maxRecDepth 100000 in
theorem mSt_records_c : ri_cks mSt_records.2.2.1 mSt_records.2.2.2.2.2 = true := by decide +kernel
set_option maxRecDepth 100000 in
theorem mSt_level_c : ri_cks mSt_level.2.2.1 mSt_level.2.2.2.2.2 = true := by decide +kernel
set_option maxRecDepth 100000 in
theorem mSt_entries_c : ri_cks mSt_entries.2.2.1 mSt_entries.2.2.2.2.2 = true := by decide +kernel
set_option maxRecDepth 100000 in
theorem mCo_sizeOf_c : ri_cks mCo_sizeOf.2.2.1 mCo_sizeOf.2.2.2.2.2 = true := by decide +kernel
set_option maxRecDepth 100000 in
theorem mSt_entry_c : ri_cks mSt_entry.2.2.1 mSt_entry.2.2.2.2.2 = true := by decide +kernel
set_option maxRecDepth 100000 in
theorem mCo_read_c : ri_cks mCo_read.2.2.1 mCo_read.2.2.2.2.2 = true := by decide +kernel
set_option maxRecDepth 100000 in
theorem mSt_assemble_c : ri_cks mSt_assemble.2.2.1 mSt_assemble.2.2.2.2.2 = true := by decide +kernel
set_option maxRecDepth 100000 in
theorem mEv_clear_c : ri_cks mEv_clear.2.2.1 mEv_clear.2.2.2.2.2 = true := by decide +kernel
set_option maxRecDepth 100000 in
theorem mSt_seek_c : ri_cks mSt_seek.2.2.1 mSt_seek.2.2.2.2.2 = true := by decide +kernel
set_option maxRecDepth 100000 in
theorem mCo_startOf_c : ri_cks mCo_startOf.2.2.1 mCo_startOf.2.2.2.2.2 = true := by decide +kernel
set_option maxRecDepth 100000 in
theorem mSt_putFields_c : ri_cks mSt_putFields.2.2.1 mSt_putFields.2.2.2.2.2 = true := by decide +kernel
set_option maxRecDepth 100000 in
theorem mSt_putField_c : ri_cks mSt_putField.2.2.1 mSt_putField.2.2.2.2.2 = true := by decide +kernel
set_option maxRecDepth 100000 in
theorem mSt_lowestOf_c : ri_cks mSt_lowestOf.2.2.1 mSt_lowestOf.2.2.2.2.2 = true := by decide +kernel
set_option maxRecDepth 100000 in
theorem mSt_peek_c : ri_cks mSt_peek.2.2.1 mSt_peek.2.2.2.2.2 = true := by decide +kernel
set_option maxRecDepth 100000 in
theorem mSt_isCursor_c : ri_cks mSt_isCursor.2.2.1 mSt_isCursor.2.2.2.2.2 = true := by decide +kernel
set_option maxRecDepth 100000 in
theorem mSt_passEmptyEntries_c : ri_cks mSt_passEmptyEntries.2.2.1 mSt_passEmptyEntries.2.2.2.2.2 = true := by decide +kernel
set_option maxRecDepth 100000 in
theorem mSt_pass_c : ri_cks mSt_pass.2.2.1 mSt_pass.2.2.2.2.2 = true := by decide +kernel
set_option maxRecDepth 100000 in
theorem mSt_putOccurrence_c : ri_cks mSt_putOccurrence.2.2.1 mSt_putOccurrence.2.2.2.2.2 = true := by decide +kernel
set_option maxRecDepth 100000 in
theorem mEv_add_c : ri_cks mEv_add.2.2.1 mEv_add.2.2.2.2.2 = true := by decide +kernel
set_option maxRecDepth 100000 in
theorem mSt_comesAgain_c : ri_cks mSt_comesAgain.2.2.1 mSt_comesAgain.2.2.2.2.2 = true := by decide +kernel
set_option maxRecDepth 100000 in
theorem mSt_event_c : ri_cks mSt_event.2.2.1 mSt_event.2.2.2.2.2 = true := by decide +kernel
set_option maxRecDepth 100000 in
theorem mEv_read_c : ri_cks mEv_read.2.2.1 mEv_read.2.2.2.2.2 = true := by decide +kernel
set_option maxRecDepth 100000 in
theorem mMo_init_c : ri_cks mMo_init.2.2.1 mMo_init.2.2.2.2.2 = true := by decide +kernel
set_option maxRecDepth 100000 in
theorem mMo_field_c : ri_cks mMo_field.2.2.1 mMo_field.2.2.2.2.2 = true := by decide +kernel
set_option maxRecDepth 100000 in
theorem mMo_isAround_c : ri_cks mMo_isAround.2.2.1 mMo_isAround.2.2.2.2.2 = true := by decide +kernel
set_option maxRecDepth 100000 in
theorem mMo_ready_c : ri_cks mMo_ready.2.2.1 mMo_ready.2.2.2.2.2 = true := by decide +kernel
set_option maxRecDepth 100000 in
theorem mMo_columns_c : ri_cks mMo_columns.2.2.1 mMo_columns.2.2.2.2.2 = true := by decide +kernel
set_option maxRecDepth 100000 in
theorem mMo_level_c : ri_cks mMo_level.2.2.1 mMo_level.2.2.2.2.2 = true := by decide +kernel
set_option maxRecDepth 100000 in
theorem mMo_isField_c : ri_cks mMo_isField.2.2.1 mMo_isField.2.2.2.2.2 = true := by decide +kernel
set_option maxRecDepth 100000 in
theorem mMo_count_c : ri_cks mMo_count.2.2.1 mMo_count.2.2.2.2.2 = true := by decide +kernel
set_option maxRecDepth 100000 in
theorem mMo_columnOf_c : ri_cks mMo_columnOf.2.2.1 mMo_columnOf.2.2.2.2.2 = true := by decide +kernel
set_option maxRecDepth 100000 in
theorem mMo_begin_c : ri_cks mMo_begin.2.2.1 mMo_begin.2.2.2.2.2 = true := by decide +kernel
set_option maxRecDepth 100000 in
theorem mMo_open_c : ri_cks mMo_open.2.2.1 mMo_open.2.2.2.2.2 = true := by decide +kernel
set_option maxRecDepth 100000 in
theorem mMo_comes_c : ri_cks mMo_comes.2.2.1 mMo_comes.2.2.2.2.2 = true := by decide +kernel
set_option maxRecDepth 100000 in
theorem mMo_has_c : ri_cks mMo_has.2.2.1 mMo_has.2.2.2.2.2 = true := by decide +kernel
set_option maxRecDepth 100000 in
theorem mMo_leaf_c : ri_cks mMo_leaf.2.2.1 mMo_leaf.2.2.2.2.2 = true := by decide +kernel
set_option maxRecDepth 100000 in
theorem mMo_close_c : ri_cks mMo_close.2.2.1 mMo_close.2.2.2.2.2 = true := by decide +kernel
set_option maxRecDepth 100000 in
theorem mMo_drop_c : ri_cks mMo_drop.2.2.1 mMo_drop.2.2.2.2.2 = true := by decide +kernel
set_option maxRecDepth 100000 in
theorem mMo_records_c : ri_cks mMo_records.2.2.1 mMo_records.2.2.2.2.2 = true := by decide +kernel
set_option maxRecDepth 100000 in
theorem mMo_entries_c : ri_cks mMo_entries.2.2.1 mMo_entries.2.2.2.2.2 = true := by decide +kernel
set_option maxRecDepth 100000 in
theorem mMo_goesTo_c : ri_cks mMo_goesTo.2.2.1 mMo_goesTo.2.2.2.2.2 = true := by decide +kernel
set_option maxRecDepth 100000 in
theorem mMo_finds_c : ri_cks mMo_finds.2.2.1 mMo_finds.2.2.2.2.2 = true := by decide +kernel
set_option maxRecDepth 100000 in
theorem mMo_next_c : ri_cks mMo_next.2.2.1 mMo_next.2.2.2.2.2 = true := by decide +kernel
set_option maxRecDepth 100000 in
theorem mMo_deeper_c : ri_cks mMo_deeper.2.2.1 mMo_deeper.2.2.2.2.2 = true := by decide +kernel
set_option maxRecDepth 100000 in
theorem mMo_entry_c : ri_cks mMo_entry.2.2.1 mMo_entry.2.2.2.2.2 = true := by decide +kernel
set_option maxRecDepth 100000 in
theorem mMo_assemble_c : ri_cks mMo_assemble.2.2.1 mMo_assemble.2.2.2.2.2 = true := by decide +kernel
set_option maxRecDepth 100000 in
theorem mMo_wants_c : ri_cks mMo_wants.2.2.1 mMo_wants.2.2.2.2.2 = true := by decide +kernel
set_option maxRecDepth 100000 in
theorem mMo_tells_c : ri_cks mMo_tells.2.2.1 mMo_tells.2.2.2.2.2 = true := by decide +kernel
set_option maxRecDepth 100000 in
theorem mMo_event_c : ri_cks mMo_event.2.2.1 mMo_event.2.2.2.2.2 = true := by decide +kernel
set_option maxRecDepth 100000 in
theorem mLa_law_c : ri_cks mLa_law.2.2.1 mLa_law.2.2.2.2.2 = true := by decide +kernel
set_option maxRecDepth 100000 in
theorem mSt_init_k : ri_okM mSt_init := ⟨ri_cks_ok mSt_init_c, rfl, by decide +kernel, rt_in 44 rfl rfl, by decide⟩
set_option maxRecDepth 100000 in
theorem mSc_init_k : ri_okM mSc_init := ⟨ri_cks_ok mSc_init_c, rfl, by decide +kernel, rt_in 52 rfl rfl, by decide⟩
set_option maxRecDepth 100000 in
theorem mDr_init_k : ri_okM mDr_init := ⟨ri_cks_ok mDr_init_c, rfl, by decide +kernel, rt_in 96 rfl rfl, by decide⟩
set_option maxRecDepth 100000 in
theorem mEv_init_k : ri_okM mEv_init := ⟨ri_cks_ok mEv_init_c, rfl, by decide +kernel, rt_in 127 rfl rfl, by decide⟩
set_option maxRecDepth 100000 in
theorem mCo_init_k : ri_okM mCo_init := ⟨ri_cks_ok mCo_init_c, rfl, by decide +kernel, rt_in 141 rfl rfl, by decide⟩
set_option maxRecDepth 100000 in
theorem mSt_field_k : ri_okM mSt_field := ⟨ri_cks_ok mSt_field_c, rfl, by decide +kernel, rt_in 186 rfl rfl, by decide⟩
set_option maxRecDepth 100000 in
theorem mSc_add_k : ri_okM mSc_add := ⟨ri_cks_ok mSc_add_c, rfl, by decide +kernel, rt_in 190 rfl rfl, by decide⟩
set_option maxRecDepth 100000 in
theorem mSc_mayHold_k : ri_okM mSc_mayHold := ⟨ri_cks_ok mSc_mayHold_c, rfl, by decide +kernel, rt_in 194 rfl rfl, by decide⟩
set_option maxRecDepth 100000 in
theorem mSc_isGroup_k : ri_okM mSc_isGroup := ⟨ri_cks_ok mSc_isGroup_c, rfl, by decide +kernel, rt_in 198 rfl rfl, by decide⟩
set_option maxRecDepth 100000 in
theorem mSc_has_k : ri_okM mSc_has := ⟨ri_cks_ok mSc_has_c, rfl, by decide +kernel, rt_in 202 rfl rfl, by decide⟩
set_option maxRecDepth 100000 in
theorem mSc_depthOf_k : ri_okM mSc_depthOf := ⟨ri_cks_ok mSc_depthOf_c, rfl, by decide +kernel, rt_in 206 rfl rfl, by decide⟩
set_option maxRecDepth 100000 in
theorem mSc_repetitionOf_k : ri_okM mSc_repetitionOf := ⟨ri_cks_ok mSc_repetitionOf_c, rfl, by decide +kernel, rt_in 210 rfl rfl, by decide⟩
set_option maxRecDepth 100000 in
theorem mSc_definitionOf_k : ri_okM mSc_definitionOf := ⟨ri_cks_ok mSc_definitionOf_c, rfl, by decide +kernel, rt_in 214 rfl rfl, by decide⟩
set_option maxRecDepth 100000 in
theorem mSc_stretch_k : ri_okM mSc_stretch := ⟨ri_cks_ok mSc_stretch_c, rfl, by decide +kernel, rt_in 218 rfl rfl, by decide⟩
set_option maxRecDepth 100000 in
theorem mSt_ready_k : ri_okM mSt_ready := ⟨ri_cks_ok mSt_ready_c, rfl, by decide +kernel, rt_in 222 rfl rfl, by decide⟩
set_option maxRecDepth 100000 in
theorem mSc_settle_k : ri_okM mSc_settle := ⟨ri_cks_ok mSc_settle_c, rfl, by decide +kernel, rt_in 226 rfl rfl, by decide⟩
set_option maxRecDepth 100000 in
theorem mSt_begin_k : ri_okM mSt_begin := ⟨ri_cks_ok mSt_begin_c, rfl, by decide +kernel, rt_in 230 rfl rfl, by decide⟩
set_option maxRecDepth 100000 in
theorem mDr_start_k : ri_okM mDr_start := ⟨ri_cks_ok mDr_start_c, rfl, by decide +kernel, rt_in 234 rfl rfl, by decide⟩
set_option maxRecDepth 100000 in
theorem mDr_clear_k : ri_okM mDr_clear := ⟨ri_cks_ok mDr_clear_c, rfl, by decide +kernel, rt_in 238 rfl rfl, by decide⟩
set_option maxRecDepth 100000 in
theorem mSt_open_k : ri_okM mSt_open := ⟨ri_cks_ok mSt_open_c, rfl, by decide +kernel, rt_in 242 rfl rfl, by decide⟩
set_option maxRecDepth 100000 in
theorem mSt_mayCome_k : ri_okM mSt_mayCome := ⟨ri_cks_ok mSt_mayCome_c, rfl, by decide +kernel, rt_in 247 rfl rfl, by decide⟩
set_option maxRecDepth 100000 in
theorem mSc_parentOf_k : ri_okM mSc_parentOf := ⟨ri_cks_ok mSc_parentOf_c, rfl, by decide +kernel, rt_in 251 rfl rfl, by decide⟩
set_option maxRecDepth 100000 in
theorem mDr_group_k : ri_okM mDr_group := ⟨ri_cks_ok mDr_group_c, rfl, by decide +kernel, rt_in 255 rfl rfl, by decide⟩
set_option maxRecDepth 100000 in
theorem mDr_newest_k : ri_okM mDr_newest := ⟨ri_cks_ok mDr_newest_c, rfl, by decide +kernel, rt_in 259 rfl rfl, by decide⟩
set_option maxRecDepth 100000 in
theorem mSc_kindOf_k : ri_okM mSc_kindOf := ⟨ri_cks_ok mSc_kindOf_c, rfl, by decide +kernel, rt_in 263 rfl rfl, by decide⟩
set_option maxRecDepth 100000 in
theorem mSc_requires_k : ri_okM mSc_requires := ⟨ri_cks_ok mSc_requires_c, rfl, by decide +kernel, rt_in 267 rfl rfl, by decide⟩
set_option maxRecDepth 100000 in
theorem mDr_add_k : ri_okM mDr_add := ⟨ri_cks_ok mDr_add_c, rfl, by decide +kernel, rt_in 272 rfl rfl, by decide⟩
set_option maxRecDepth 100000 in
theorem mSt_withRoom_k : ri_okM mSt_withRoom := ⟨ri_cks_ok mSt_withRoom_c, rfl, by decide +kernel, rt_in 275 rfl rfl, by decide⟩
set_option maxRecDepth 100000 in
theorem mAr_copyOf_k : ri_okM mAr_copyOf := ⟨ri_cks_ok mAr_copyOf_c, rfl, by decide +kernel, rt_in 279 rfl rfl, by decide⟩
set_option maxRecDepth 100000 in
theorem mDr_enter_k : ri_okM mDr_enter := ⟨ri_cks_ok mDr_enter_c, rfl, by decide +kernel, rt_in 296 rfl rfl, by decide⟩
set_option maxRecDepth 100000 in
theorem mSt_leaf_k : ri_okM mSt_leaf := ⟨ri_cks_ok mSt_leaf_c, rfl, by decide +kernel, rt_in 300 rfl rfl, by decide⟩
set_option maxRecDepth 100000 in
theorem mSc_isLeaf_k : ri_okM mSc_isLeaf := ⟨ri_cks_ok mSc_isLeaf_c, rfl, by decide +kernel, rt_in 304 rfl rfl, by decide⟩
set_option maxRecDepth 100000 in
theorem mSt_close_k : ri_okM mSt_close := ⟨ri_cks_ok mSt_close_c, rfl, by decide +kernel, rt_in 308 rfl rfl, by decide⟩
set_option maxRecDepth 100000 in
theorem mSc_endOf_k : ri_okM mSc_endOf := ⟨ri_cks_ok mSc_endOf_c, rfl, by decide +kernel, rt_in 312 rfl rfl, by decide⟩
set_option maxRecDepth 100000 in
theorem mDr_leave_k : ri_okM mDr_leave := ⟨ri_cks_ok mDr_leave_c, rfl, by decide +kernel, rt_in 316 rfl rfl, by decide⟩
set_option maxRecDepth 100000 in
theorem mSt_keepRecord_k : ri_okM mSt_keepRecord := ⟨ri_cks_ok mSt_keepRecord_c, rfl, by decide +kernel, rt_in 320 rfl rfl, by decide⟩
set_option maxRecDepth 100000 in
theorem mSt_takeFields_k : ri_okM mSt_takeFields := ⟨ri_cks_ok mSt_takeFields_c, rfl, by decide +kernel, rt_in 324 rfl rfl, by decide⟩
set_option maxRecDepth 100000 in
theorem mSt_takeField_k : ri_okM mSt_takeField := ⟨ri_cks_ok mSt_takeField_c, rfl, by decide +kernel, rt_in 328 rfl rfl, by decide⟩
set_option maxRecDepth 100000 in
theorem mDr_fieldAt_k : ri_okM mDr_fieldAt := ⟨ri_cks_ok mDr_fieldAt_c, rfl, by decide +kernel, rt_in 332 rfl rfl, by decide⟩
set_option maxRecDepth 100000 in
theorem mSt_addEmptyEntries_k : ri_okM mSt_addEmptyEntries := ⟨ri_cks_ok mSt_addEmptyEntries_c, rfl, by decide +kernel, rt_in 336 rfl rfl, by decide⟩
set_option maxRecDepth 100000 in
theorem mSc_columnsIn_k : ri_okM mSc_columnsIn := ⟨ri_cks_ok mSc_columnsIn_c, rfl, by decide +kernel, rt_in 341 rfl rfl, by decide⟩
set_option maxRecDepth 100000 in
theorem mSt_holds_k : ri_okM mSt_holds := ⟨ri_cks_ok mSt_holds_c, rfl, by decide +kernel, rt_in 344 rfl rfl, by decide⟩
set_option maxRecDepth 100000 in
theorem mCo_add_k : ri_okM mCo_add := ⟨ri_cks_ok mCo_add_c, rfl, by decide +kernel, rt_in 348 rfl rfl, by decide⟩
set_option maxRecDepth 100000 in
theorem mCo_has_k : ri_okM mCo_has := ⟨ri_cks_ok mCo_has_c, rfl, by decide +kernel, rt_in 352 rfl rfl, by decide⟩
set_option maxRecDepth 100000 in
theorem mSt_takeOccurrence_k : ri_okM mSt_takeOccurrence := ⟨ri_cks_ok mSt_takeOccurrence_c, rfl, by decide +kernel, rt_in 357 rfl rfl, by decide⟩
set_option maxRecDepth 100000 in
theorem mDr_valueAt_k : ri_okM mDr_valueAt := ⟨ri_cks_ok mDr_valueAt_c, rfl, by decide +kernel, rt_in 361 rfl rfl, by decide⟩
set_option maxRecDepth 100000 in
theorem mSc_columnOf_k : ri_okM mSc_columnOf := ⟨ri_cks_ok mSc_columnOf_c, rfl, by decide +kernel, rt_in 365 rfl rfl, by decide⟩
set_option maxRecDepth 100000 in
theorem mSt_drop_k : ri_okM mSt_drop := ⟨ri_cks_ok mSt_drop_c, rfl, by decide +kernel, rt_in 371 rfl rfl, by decide⟩
set_option maxRecDepth 100000 in
theorem mSt_records_k : ri_okM mSt_records := ⟨ri_cks_ok mSt_records_c, rfl, by decide +kernel, rt_in 375 rfl rfl, by decide⟩
set_option maxRecDepth 100000 in
theorem mSt_level_k : ri_okM mSt_level := ⟨ri_cks_ok mSt_level_c, rfl, by decide +kernel, rt_in 379 rfl rfl, by decide⟩
set_option maxRecDepth 100000 in
theorem mSt_entries_k : ri_okM mSt_entries := ⟨ri_cks_ok mSt_entries_c, rfl, by decide +kernel, rt_in 384 rfl rfl, by decide⟩
set_option maxRecDepth 100000 in
theorem mCo_sizeOf_k : ri_okM mCo_sizeOf := ⟨ri_cks_ok mCo_sizeOf_c, rfl, by decide +kernel, rt_in 388 rfl rfl, by decide⟩
set_option maxRecDepth 100000 in
theorem mSt_entry_k : ri_okM mSt_entry := ⟨ri_cks_ok mSt_entry_c, rfl, by decide +kernel, rt_in 392 rfl rfl, by decide⟩
set_option maxRecDepth 100000 in
theorem mCo_read_k : ri_okM mCo_read := ⟨ri_cks_ok mCo_read_c, rfl, by decide +kernel, rt_in 396 rfl rfl, by decide⟩
set_option maxRecDepth 100000 in
theorem mSt_assemble_k : ri_okM mSt_assemble := ⟨ri_cks_ok mSt_assemble_c, rfl, by decide +kernel, rt_in 400 rfl rfl, by decide⟩
set_option maxRecDepth 100000 in
theorem mEv_clear_k : ri_okM mEv_clear := ⟨ri_cks_ok mEv_clear_c, rfl, by decide +kernel, rt_in 404 rfl rfl, by decide⟩
set_option maxRecDepth 100000 in
theorem mSt_seek_k : ri_okM mSt_seek := ⟨ri_cks_ok mSt_seek_c, rfl, by decide +kernel, rt_in 410 rfl rfl, by decide⟩
set_option maxRecDepth 100000 in
theorem mCo_startOf_k : ri_okM mCo_startOf := ⟨ri_cks_ok mCo_startOf_c, rfl, by decide +kernel, rt_in 414 rfl rfl, by decide⟩
set_option maxRecDepth 100000 in
theorem mSt_putFields_k : ri_okM mSt_putFields := ⟨ri_cks_ok mSt_putFields_c, rfl, by decide +kernel, rt_in 420 rfl rfl, by decide⟩
set_option maxRecDepth 100000 in
theorem mSt_putField_k : ri_okM mSt_putField := ⟨ri_cks_ok mSt_putField_c, rfl, by decide +kernel, rt_in 424 rfl rfl, by decide⟩
set_option maxRecDepth 100000 in
theorem mSt_lowestOf_k : ri_okM mSt_lowestOf := ⟨ri_cks_ok mSt_lowestOf_c, rfl, by decide +kernel, rt_in 427 rfl rfl, by decide⟩
set_option maxRecDepth 100000 in
theorem mSt_peek_k : ri_okM mSt_peek := ⟨ri_cks_ok mSt_peek_c, rfl, by decide +kernel, rt_in 431 rfl rfl, by decide⟩
set_option maxRecDepth 100000 in
theorem mSt_isCursor_k : ri_okM mSt_isCursor := ⟨ri_cks_ok mSt_isCursor_c, rfl, by decide +kernel, rt_in 435 rfl rfl, by decide⟩
set_option maxRecDepth 100000 in
theorem mSt_passEmptyEntries_k : ri_okM mSt_passEmptyEntries := ⟨ri_cks_ok mSt_passEmptyEntries_c, rfl, by decide +kernel, rt_in 439 rfl rfl, by decide⟩
set_option maxRecDepth 100000 in
theorem mSt_pass_k : ri_okM mSt_pass := ⟨ri_cks_ok mSt_pass_c, rfl, by decide +kernel, rt_in 443 rfl rfl, by decide⟩
set_option maxRecDepth 100000 in
theorem mSt_putOccurrence_k : ri_okM mSt_putOccurrence := ⟨ri_cks_ok mSt_putOccurrence_c, rfl, by decide +kernel, rt_in 447 rfl rfl, by decide⟩
set_option maxRecDepth 100000 in
theorem mEv_add_k : ri_okM mEv_add := ⟨ri_cks_ok mEv_add_c, rfl, by decide +kernel, rt_in 451 rfl rfl, by decide⟩
set_option maxRecDepth 100000 in
theorem mSt_comesAgain_k : ri_okM mSt_comesAgain := ⟨ri_cks_ok mSt_comesAgain_c, rfl, by decide +kernel, rt_in 456 rfl rfl, by decide⟩
set_option maxRecDepth 100000 in
theorem mSt_event_k : ri_okM mSt_event := ⟨ri_cks_ok mSt_event_c, rfl, by decide +kernel, rt_in 460 rfl rfl, by decide⟩
set_option maxRecDepth 100000 in
theorem mEv_read_k : ri_okM mEv_read := ⟨ri_cks_ok mEv_read_c, rfl, by decide +kernel, rt_in 464 rfl rfl, by decide⟩
set_option maxRecDepth 100000 in
theorem mMo_init_k : ri_okM mMo_init := ⟨ri_cks_ok mMo_init_c, rfl, by decide +kernel, rt_in 469 rfl rfl, by decide⟩
set_option maxRecDepth 100000 in
theorem mMo_field_k : ri_okM mMo_field := ⟨ri_cks_ok mMo_field_c, rfl, by decide +kernel, rt_in 551 rfl rfl, by decide⟩
set_option maxRecDepth 100000 in
theorem mMo_isAround_k : ri_okM mMo_isAround := ⟨ri_cks_ok mMo_isAround_c, rfl, by decide +kernel, rt_in 555 rfl rfl, by decide⟩
set_option maxRecDepth 100000 in
theorem mMo_ready_k : ri_okM mMo_ready := ⟨ri_cks_ok mMo_ready_c, rfl, by decide +kernel, rt_in 559 rfl rfl, by decide⟩
set_option maxRecDepth 100000 in
theorem mMo_columns_k : ri_okM mMo_columns := ⟨ri_cks_ok mMo_columns_c, rfl, by decide +kernel, rt_in 563 rfl rfl, by decide⟩
set_option maxRecDepth 100000 in
theorem mMo_level_k : ri_okM mMo_level := ⟨ri_cks_ok mMo_level_c, rfl, by decide +kernel, rt_in 567 rfl rfl, by decide⟩
set_option maxRecDepth 100000 in
theorem mMo_isField_k : ri_okM mMo_isField := ⟨ri_cks_ok mMo_isField_c, rfl, by decide +kernel, rt_in 571 rfl rfl, by decide⟩
set_option maxRecDepth 100000 in
theorem mMo_count_k : ri_okM mMo_count := ⟨ri_cks_ok mMo_count_c, rfl, by decide +kernel, rt_in 575 rfl rfl, by decide⟩
set_option maxRecDepth 100000 in
theorem mMo_columnOf_k : ri_okM mMo_columnOf := ⟨ri_cks_ok mMo_columnOf_c, rfl, by decide +kernel, rt_in 579 rfl rfl, by decide⟩
set_option maxRecDepth 100000 in
theorem mMo_begin_k : ri_okM mMo_begin := ⟨ri_cks_ok mMo_begin_c, rfl, by decide +kernel, rt_in 583 rfl rfl, by decide⟩
set_option maxRecDepth 100000 in
theorem mMo_open_k : ri_okM mMo_open := ⟨ri_cks_ok mMo_open_c, rfl, by decide +kernel, rt_in 587 rfl rfl, by decide⟩
set_option maxRecDepth 100000 in
theorem mMo_comes_k : ri_okM mMo_comes := ⟨ri_cks_ok mMo_comes_c, rfl, by decide +kernel, rt_in 591 rfl rfl, by decide⟩
set_option maxRecDepth 100000 in
theorem mMo_has_k : ri_okM mMo_has := ⟨ri_cks_ok mMo_has_c, rfl, by decide +kernel, rt_in 595 rfl rfl, by decide⟩
set_option maxRecDepth 100000 in
theorem mMo_leaf_k : ri_okM mMo_leaf := ⟨ri_cks_ok mMo_leaf_c, rfl, by decide +kernel, rt_in 599 rfl rfl, by decide⟩
set_option maxRecDepth 100000 in
theorem mMo_close_k : ri_okM mMo_close := ⟨ri_cks_ok mMo_close_c, rfl, by decide +kernel, rt_in 603 rfl rfl, by decide⟩
set_option maxRecDepth 100000 in
theorem mMo_drop_k : ri_okM mMo_drop := ⟨ri_cks_ok mMo_drop_c, rfl, by decide +kernel, rt_in 607 rfl rfl, by decide⟩
set_option maxRecDepth 100000 in
theorem mMo_records_k : ri_okM mMo_records := ⟨ri_cks_ok mMo_records_c, rfl, by decide +kernel, rt_in 611 rfl rfl, by decide⟩
set_option maxRecDepth 100000 in
theorem mMo_entries_k : ri_okM mMo_entries := ⟨ri_cks_ok mMo_entries_c, rfl, by decide +kernel, rt_in 615 rfl rfl, by decide⟩
set_option maxRecDepth 100000 in
theorem mMo_goesTo_k : ri_okM mMo_goesTo := ⟨ri_cks_ok mMo_goesTo_c, rfl, by decide +kernel, rt_in 619 rfl rfl, by decide⟩
set_option maxRecDepth 100000 in
theorem mMo_finds_k : ri_okM mMo_finds := ⟨ri_cks_ok mMo_finds_c, rfl, by decide +kernel, rt_in 623 rfl rfl, by decide⟩
set_option maxRecDepth 100000 in
theorem mMo_next_k : ri_okM mMo_next := ⟨ri_cks_ok mMo_next_c, rfl, by decide +kernel, rt_in 627 rfl rfl, by decide⟩
set_option maxRecDepth 100000 in
theorem mMo_deeper_k : ri_okM mMo_deeper := ⟨ri_cks_ok mMo_deeper_c, rfl, by decide +kernel, rt_in 631 rfl rfl, by decide⟩
set_option maxRecDepth 100000 in
theorem mMo_entry_k : ri_okM mMo_entry := ⟨ri_cks_ok mMo_entry_c, rfl, by decide +kernel, rt_in 635 rfl rfl, by decide⟩
set_option maxRecDepth 100000 in
theorem mMo_assemble_k : ri_okM mMo_assemble := ⟨ri_cks_ok mMo_assemble_c, rfl, by decide +kernel, rt_in 639 rfl rfl, by decide⟩
set_option maxRecDepth 100000 in
theorem mMo_wants_k : ri_okM mMo_wants := ⟨ri_cks_ok mMo_wants_c, rfl, by decide +kernel, rt_in 643 rfl rfl, by decide⟩
set_option maxRecDepth 100000 in
theorem mMo_tells_k : ri_okM mMo_tells := ⟨ri_cks_ok mMo_tells_c, rfl, by decide +kernel, rt_in 647 rfl rfl, by decide⟩
set_option maxRecDepth 100000 in
theorem mMo_event_k : ri_okM mMo_event := ⟨ri_cks_ok mMo_event_c, rfl, by decide +kernel, rt_in 651 rfl rfl, by decide⟩
end
section
/-! Calls (written by gen03.py). Kinds: 0 virtual, 1 static, 2 constructor; 4 a nest mate's private static, 5 a nest mate's private constructor -/
def rt_cL : List (Nat × Nat × Nat × ri_M × Nat) := [(4, 9, 5, mSc_init, 0), (4, 18, 5, mDr_init, 0), (4, 25, 5, mEv_init, 0), (4, 36, 2, mCo_init, 1), (4, 43, 0, mSc_add, 3), (4, 47, 0, mSc_settle, 0), (4, 65, 0, mDr_start, 0), (4, 68, 0, mSc_isGroup, 1), (4, 72, 0, mSt_mayCome, 1), (4, 75, 0, mDr_add, 2), (4, 78, 0, mDr_enter, 1), (4, 81, 0, mSc_isLeaf, 1), (4, 84, 0, mDr_group, 0), (4, 88, 0, mDr_newest, 0), (4, 91, 0, mSc_endOf, 1), (4, 95, 0, mSc_requires, 3), (4, 102, 0, mDr_leave, 0), (4, 105, 0, mSt_keepRecord, 0), (4, 108, 0, mDr_clear, 0), (4, 111, 0, mSc_has, 1), (4, 114, 0, mSc_repetitionOf, 1), (4, 117, 0, mSc_definitionOf, 1), (4, 120, 0, mSc_columnOf, 1), (4, 123, 0, mCo_sizeOf, 1), (4, 126, 0, mCo_read, 3), (4, 130, 0, mEv_clear, 0), (4, 139, 0, mSt_seek, 1), (4, 142, 0, mSt_putFields, 2), (4, 148, 0, mEv_read, 2), (4, 151, 0, mSc_parentOf, 1), (4, 158, 0, mSc_kindOf, 1), (4, 164, 0, mSt_takeFields, 3), (4, 168, 0, mSt_takeField, 3), (4, 171, 0, mDr_fieldAt, 1), (4, 174, 0, mSt_addEmptyEntries, 2), (4, 177, 0, mSt_takeOccurrence, 3), (4, 180, 0, mDr_valueAt, 1), (4, 183, 0, mCo_add, 4), (4, 186, 0, mSc_columnsIn, 1), (4, 190, 1, mSt_holds, 2), (4, 194, 0, mCo_startOf, 2), (4, 197, 0, mSt_putField, 2), (4, 200, 1, mSt_lowestOf, 1), (4, 204, 0, mSt_peek, 2), (4, 207, 0, mSt_passEmptyEntries, 1), (4, 211, 0, mSt_putOccurrence, 2), (4, 214, 0, mSt_comesAgain, 2), (4, 218, 0, mEv_add, 2), (4, 219, 0, mSt_pass, 1), (4, 222, 0, mSt_isCursor, 1), (4, 230, 1, mAr_copyOf, 2), (0, 26, 0, mCo_has, 1), (0, 30, 4, mSt_withRoom, 2), (0, 34, 0, mCo_sizeOf, 1), (0, 38, 0, mCo_read, 3), (1, 24, 0, mDr_clear, 0), (1, 38, 4, mSt_withRoom, 2), (2, 19, 4, mSt_withRoom, 2), (3, 45, 0, mSc_mayHold, 1), (3, 49, 0, mSc_depthOf, 1), (3, 53, 0, mSc_repetitionOf, 1), (3, 56, 0, mSc_definitionOf, 1), (3, 62, 0, mSc_stretch, 2), (3, 66, 0, mSc_isGroup, 1), (3, 69, 0, mSc_has, 1), (6, 9, 2, mSt_init, 0), (6, 12, 2, mMo_init, 0), (6, 13, 0, mSt_field, 3), (6, 17, 0, mMo_field, 3), (6, 18, 0, mSt_ready, 0), (6, 22, 0, mMo_ready, 0), (6, 23, 0, mSt_begin, 0), (6, 27, 0, mMo_begin, 0), (6, 28, 0, mSt_open, 1), (6, 32, 0, mMo_open, 1), (6, 33, 0, mSt_leaf, 2), (6, 37, 0, mMo_leaf, 2), (6, 38, 0, mSt_close, 0), (6, 41, 0, mMo_close, 0), (6, 42, 0, mSt_drop, 0), (6, 45, 0, mMo_drop, 0), (6, 46, 0, mSt_records, 0), (6, 49, 0, mMo_records, 0), (6, 50, 0, mSt_level, 2), (6, 54, 0, mMo_level, 2), (6, 55, 0, mSt_entries, 1), (6, 59, 0, mMo_entries, 1), (6, 60, 0, mSt_entry, 3), (6, 64, 0, mMo_entry, 3), (6, 65, 0, mSt_assemble, 3), (6, 68, 0, mMo_assemble, 3), (6, 69, 0, mSt_event, 2), (6, 72, 0, mMo_event, 2), (5, 61, 0, mMo_isAround, 1), (5, 65, 0, mMo_columns, 0), (5, 69, 0, mMo_isField, 1), (5, 72, 0, mMo_count, 2), (5, 76, 0, mMo_columnOf, 1), (5, 89, 0, mMo_has, 1), (5, 92, 0, mMo_comes, 3), (5, 99, 0, mMo_next, 3), (5, 106, 0, mMo_deeper, 2), (5, 118, 0, mMo_goesTo, 1), (5, 121, 0, mMo_finds, 1), (5, 127, 0, mMo_wants, 2), (5, 131, 0, mMo_tells, 2)]
def rt_c (ci k : Nat) : Option (Nat × ri_M × Nat) := rt_lk ci k rt_cL
def rt_cP (x : Nat × Nat × Nat × ri_M × Nat) : Prop := match x with
  | (ci, k, kd, M', n) => ri_okM M' ∧ Cond.initialized M'.2.1.cls ∈ rt_tbl ∧ (M'.2.1.cls ≠ "java/lang/invoke/MethodHandle" ∧ M'.2.1.cls ≠ "java/lang/invoke/VarHandle") ∧ (parseMethodDescriptor M'.2.1.desc).map (fun d => d.parameters.length) = some n ∧ (match kd with
    | 0 => ∃ (T : u_T) (N : Nat), vwCl[M'.1]? = some (M'.2.1.cls, T, N) ∧ Cond.methodLink (rt_cn ci) k M'.2.1 ∈ rt_tbl ∧ Cond.instanceMethod M'.2.1 ∈ rt_tbl ∧ Cond.selects M'.2.1.cls M'.2.1 M'.2.1 ∈ rt_tbl
    | 1 => Cond.methodLink (rt_cn ci) k M'.2.1 ∈ rt_tbl ∧ Cond.static M'.2.1 ∈ rt_tbl
    | 2 => Cond.methodLink (rt_cn ci) k M'.2.1 ∈ rt_tbl ∧ Cond.instanceMethod M'.2.1 ∈ rt_tbl ∧ M'.2.1.name = "<init>" ∧ M'.2.2.2.2.1 = none
    | 4 => (∃ host, Cond.methodLinkNest (rt_cn ci) k M'.2.1 host ∈ rt_sd) ∧ Cond.static M'.2.1 ∈ rt_tbl
    | 5 => (∃ host, Cond.methodLinkNest (rt_cn ci) k M'.2.1 host ∈ rt_sd) ∧ Cond.instanceMethod M'.2.1 ∈ rt_tbl ∧ M'.2.1.name = "<init>" ∧ M'.2.2.2.2.1 = none
    | _ => True)
set_option maxRecDepth 100000 in
theorem rt_c_0 : rt_cP (4, 9, 5, mSc_init, 0) := ⟨mSc_init_k, rt_in 32 rfl rfl, ⟨by decide +kernel, by decide +kernel⟩, by decide +kernel, ⟨⟨"Striping", rt_inN 50 rfl rfl⟩, rt_in 51 rfl rfl, rfl, rfl⟩⟩
set_option maxRecDepth 100000 in
theorem rt_c_1 : rt_cP (4, 18, 5, mDr_init, 0) := ⟨mDr_init_k, rt_in 33 rfl rfl, ⟨by decide +kernel, by decide +kernel⟩, by decide +kernel, ⟨⟨"Striping", rt_inN 94 rfl rfl⟩, rt_in 95 rfl rfl, rfl, rfl⟩⟩
set_option maxRecDepth 100000 in
theorem rt_c_2 : rt_cP (4, 25, 5, mEv_init, 0) := ⟨mEv_init_k, rt_in 34 rfl rfl, ⟨by decide +kernel, by decide +kernel⟩, by decide +kernel, ⟨⟨"Striping", rt_inN 125 rfl rfl⟩, rt_in 126 rfl rfl, rfl, rfl⟩⟩
set_option maxRecDepth 100000 in
theorem rt_c_3 : rt_cP (4, 36, 2, mCo_init, 1) := ⟨mCo_init_k, rt_in 35 rfl rfl, ⟨by decide +kernel, by decide +kernel⟩, by decide +kernel, ⟨rt_in 139 rfl rfl, rt_in 140 rfl rfl, rfl, rfl⟩⟩
set_option maxRecDepth 100000 in
theorem rt_c_4 : rt_cP (4, 43, 0, mSc_add, 3) := ⟨mSc_add_k, rt_in 32 rfl rfl, ⟨by decide +kernel, by decide +kernel⟩, by decide +kernel, ⟨_, _, rfl, rt_in 187 rfl rfl, rt_in 188 rfl rfl, rt_in 189 rfl rfl⟩⟩
set_option maxRecDepth 100000 in
theorem rt_c_5 : rt_cP (4, 47, 0, mSc_settle, 0) := ⟨mSc_settle_k, rt_in 32 rfl rfl, ⟨by decide +kernel, by decide +kernel⟩, by decide +kernel, ⟨_, _, rfl, rt_in 223 rfl rfl, rt_in 224 rfl rfl, rt_in 225 rfl rfl⟩⟩
set_option maxRecDepth 100000 in
theorem rt_c_6 : rt_cP (4, 65, 0, mDr_start, 0) := ⟨mDr_start_k, rt_in 33 rfl rfl, ⟨by decide +kernel, by decide +kernel⟩, by decide +kernel, ⟨_, _, rfl, rt_in 231 rfl rfl, rt_in 232 rfl rfl, rt_in 233 rfl rfl⟩⟩
set_option maxRecDepth 100000 in
theorem rt_c_7 : rt_cP (4, 68, 0, mSc_isGroup, 1) := ⟨mSc_isGroup_k, rt_in 32 rfl rfl, ⟨by decide +kernel, by decide +kernel⟩, by decide +kernel, ⟨_, _, rfl, rt_in 243 rfl rfl, rt_in 196 rfl rfl, rt_in 197 rfl rfl⟩⟩
set_option maxRecDepth 100000 in
theorem rt_c_8 : rt_cP (4, 72, 0, mSt_mayCome, 1) := ⟨mSt_mayCome_k, rt_in 31 rfl rfl, ⟨by decide +kernel, by decide +kernel⟩, by decide +kernel, ⟨_, _, rfl, rt_in 244 rfl rfl, rt_in 246 rfl rfl, rt_in 2 rfl rfl⟩⟩
set_option maxRecDepth 100000 in
theorem rt_c_9 : rt_cP (4, 75, 0, mDr_add, 2) := ⟨mDr_add_k, rt_in 33 rfl rfl, ⟨by decide +kernel, by decide +kernel⟩, by decide +kernel, ⟨_, _, rfl, rt_in 269 rfl rfl, rt_in 270 rfl rfl, rt_in 271 rfl rfl⟩⟩
set_option maxRecDepth 100000 in
theorem rt_c_10 : rt_cP (4, 78, 0, mDr_enter, 1) := ⟨mDr_enter_k, rt_in 33 rfl rfl, ⟨by decide +kernel, by decide +kernel⟩, by decide +kernel, ⟨_, _, rfl, rt_in 293 rfl rfl, rt_in 294 rfl rfl, rt_in 295 rfl rfl⟩⟩
set_option maxRecDepth 100000 in
theorem rt_c_11 : rt_cP (4, 81, 0, mSc_isLeaf, 1) := ⟨mSc_isLeaf_k, rt_in 32 rfl rfl, ⟨by decide +kernel, by decide +kernel⟩, by decide +kernel, ⟨_, _, rfl, rt_in 301 rfl rfl, rt_in 302 rfl rfl, rt_in 303 rfl rfl⟩⟩
set_option maxRecDepth 100000 in
theorem rt_c_12 : rt_cP (4, 84, 0, mDr_group, 0) := ⟨mDr_group_k, rt_in 33 rfl rfl, ⟨by decide +kernel, by decide +kernel⟩, by decide +kernel, ⟨_, _, rfl, rt_in 252 rfl rfl, rt_in 253 rfl rfl, rt_in 254 rfl rfl⟩⟩
set_option maxRecDepth 100000 in
theorem rt_c_13 : rt_cP (4, 88, 0, mDr_newest, 0) := ⟨mDr_newest_k, rt_in 33 rfl rfl, ⟨by decide +kernel, by decide +kernel⟩, by decide +kernel, ⟨_, _, rfl, rt_in 256 rfl rfl, rt_in 257 rfl rfl, rt_in 258 rfl rfl⟩⟩
set_option maxRecDepth 100000 in
theorem rt_c_14 : rt_cP (4, 91, 0, mSc_endOf, 1) := ⟨mSc_endOf_k, rt_in 32 rfl rfl, ⟨by decide +kernel, by decide +kernel⟩, by decide +kernel, ⟨_, _, rfl, rt_in 309 rfl rfl, rt_in 310 rfl rfl, rt_in 311 rfl rfl⟩⟩
set_option maxRecDepth 100000 in
theorem rt_c_15 : rt_cP (4, 95, 0, mSc_requires, 3) := ⟨mSc_requires_k, rt_in 32 rfl rfl, ⟨by decide +kernel, by decide +kernel⟩, by decide +kernel, ⟨_, _, rfl, rt_in 264 rfl rfl, rt_in 265 rfl rfl, rt_in 266 rfl rfl⟩⟩
set_option maxRecDepth 100000 in
theorem rt_c_16 : rt_cP (4, 102, 0, mDr_leave, 0) := ⟨mDr_leave_k, rt_in 33 rfl rfl, ⟨by decide +kernel, by decide +kernel⟩, by decide +kernel, ⟨_, _, rfl, rt_in 313 rfl rfl, rt_in 314 rfl rfl, rt_in 315 rfl rfl⟩⟩
set_option maxRecDepth 100000 in
theorem rt_c_17 : rt_cP (4, 105, 0, mSt_keepRecord, 0) := ⟨mSt_keepRecord_k, rt_in 31 rfl rfl, ⟨by decide +kernel, by decide +kernel⟩, by decide +kernel, ⟨_, _, rfl, rt_in 317 rfl rfl, rt_in 319 rfl rfl, rt_in 3 rfl rfl⟩⟩
set_option maxRecDepth 100000 in
theorem rt_c_18 : rt_cP (4, 108, 0, mDr_clear, 0) := ⟨mDr_clear_k, rt_in 33 rfl rfl, ⟨by decide +kernel, by decide +kernel⟩, by decide +kernel, ⟨_, _, rfl, rt_in 367 rfl rfl, rt_in 236 rfl rfl, rt_in 237 rfl rfl⟩⟩
set_option maxRecDepth 100000 in
theorem rt_c_19 : rt_cP (4, 111, 0, mSc_has, 1) := ⟨mSc_has_k, rt_in 32 rfl rfl, ⟨by decide +kernel, by decide +kernel⟩, by decide +kernel, ⟨_, _, rfl, rt_in 380 rfl rfl, rt_in 200 rfl rfl, rt_in 201 rfl rfl⟩⟩
set_option maxRecDepth 100000 in
theorem rt_c_20 : rt_cP (4, 114, 0, mSc_repetitionOf, 1) := ⟨mSc_repetitionOf_k, rt_in 32 rfl rfl, ⟨by decide +kernel, by decide +kernel⟩, by decide +kernel, ⟨_, _, rfl, rt_in 366 rfl rfl, rt_in 208 rfl rfl, rt_in 209 rfl rfl⟩⟩
set_option maxRecDepth 100000 in
theorem rt_c_21 : rt_cP (4, 117, 0, mSc_definitionOf, 1) := ⟨mSc_definitionOf_k, rt_in 32 rfl rfl, ⟨by decide +kernel, by decide +kernel⟩, by decide +kernel, ⟨_, _, rfl, rt_in 337 rfl rfl, rt_in 212 rfl rfl, rt_in 213 rfl rfl⟩⟩
set_option maxRecDepth 100000 in
theorem rt_c_22 : rt_cP (4, 120, 0, mSc_columnOf, 1) := ⟨mSc_columnOf_k, rt_in 32 rfl rfl, ⟨by decide +kernel, by decide +kernel⟩, by decide +kernel, ⟨_, _, rfl, rt_in 362 rfl rfl, rt_in 363 rfl rfl, rt_in 364 rfl rfl⟩⟩
set_option maxRecDepth 100000 in
theorem rt_c_23 : rt_cP (4, 123, 0, mCo_sizeOf, 1) := ⟨mCo_sizeOf_k, rt_in 35 rfl rfl, ⟨by decide +kernel, by decide +kernel⟩, by decide +kernel, ⟨_, _, rfl, rt_in 385 rfl rfl, rt_in 386 rfl rfl, rt_in 387 rfl rfl⟩⟩
set_option maxRecDepth 100000 in
theorem rt_c_24 : rt_cP (4, 126, 0, mCo_read, 3) := ⟨mCo_read_k, rt_in 35 rfl rfl, ⟨by decide +kernel, by decide +kernel⟩, by decide +kernel, ⟨_, _, rfl, rt_in 393 rfl rfl, rt_in 394 rfl rfl, rt_in 395 rfl rfl⟩⟩
set_option maxRecDepth 100000 in
theorem rt_c_25 : rt_cP (4, 130, 0, mEv_clear, 0) := ⟨mEv_clear_k, rt_in 34 rfl rfl, ⟨by decide +kernel, by decide +kernel⟩, by decide +kernel, ⟨_, _, rfl, rt_in 401 rfl rfl, rt_in 402 rfl rfl, rt_in 403 rfl rfl⟩⟩
set_option maxRecDepth 100000 in
theorem rt_c_26 : rt_cP (4, 139, 0, mSt_seek, 1) := ⟨mSt_seek_k, rt_in 31 rfl rfl, ⟨by decide +kernel, by decide +kernel⟩, by decide +kernel, ⟨_, _, rfl, rt_in 407 rfl rfl, rt_in 409 rfl rfl, rt_in 8 rfl rfl⟩⟩
set_option maxRecDepth 100000 in
theorem rt_c_27 : rt_cP (4, 142, 0, mSt_putFields, 2) := ⟨mSt_putFields_k, rt_in 31 rfl rfl, ⟨by decide +kernel, by decide +kernel⟩, by decide +kernel, ⟨_, _, rfl, rt_in 417 rfl rfl, rt_in 419 rfl rfl, rt_in 9 rfl rfl⟩⟩
set_option maxRecDepth 100000 in
theorem rt_c_28 : rt_cP (4, 148, 0, mEv_read, 2) := ⟨mEv_read_k, rt_in 34 rfl rfl, ⟨by decide +kernel, by decide +kernel⟩, by decide +kernel, ⟨_, _, rfl, rt_in 461 rfl rfl, rt_in 462 rfl rfl, rt_in 463 rfl rfl⟩⟩
set_option maxRecDepth 100000 in
theorem rt_c_29 : rt_cP (4, 151, 0, mSc_parentOf, 1) := ⟨mSc_parentOf_k, rt_in 32 rfl rfl, ⟨by decide +kernel, by decide +kernel⟩, by decide +kernel, ⟨_, _, rfl, rt_in 248 rfl rfl, rt_in 249 rfl rfl, rt_in 250 rfl rfl⟩⟩
set_option maxRecDepth 100000 in
theorem rt_c_30 : rt_cP (4, 158, 0, mSc_kindOf, 1) := ⟨mSc_kindOf_k, rt_in 32 rfl rfl, ⟨by decide +kernel, by decide +kernel⟩, by decide +kernel, ⟨_, _, rfl, rt_in 260 rfl rfl, rt_in 261 rfl rfl, rt_in 262 rfl rfl⟩⟩
set_option maxRecDepth 100000 in
theorem rt_c_31 : rt_cP (4, 164, 0, mSt_takeFields, 3) := ⟨mSt_takeFields_k, rt_in 31 rfl rfl, ⟨by decide +kernel, by decide +kernel⟩, by decide +kernel, ⟨_, _, rfl, rt_in 321 rfl rfl, rt_in 323 rfl rfl, rt_in 4 rfl rfl⟩⟩
set_option maxRecDepth 100000 in
theorem rt_c_32 : rt_cP (4, 168, 0, mSt_takeField, 3) := ⟨mSt_takeField_k, rt_in 31 rfl rfl, ⟨by decide +kernel, by decide +kernel⟩, by decide +kernel, ⟨_, _, rfl, rt_in 325 rfl rfl, rt_in 327 rfl rfl, rt_in 5 rfl rfl⟩⟩
set_option maxRecDepth 100000 in
theorem rt_c_33 : rt_cP (4, 171, 0, mDr_fieldAt, 1) := ⟨mDr_fieldAt_k, rt_in 33 rfl rfl, ⟨by decide +kernel, by decide +kernel⟩, by decide +kernel, ⟨_, _, rfl, rt_in 329 rfl rfl, rt_in 330 rfl rfl, rt_in 331 rfl rfl⟩⟩
set_option maxRecDepth 100000 in
theorem rt_c_34 : rt_cP (4, 174, 0, mSt_addEmptyEntries, 2) := ⟨mSt_addEmptyEntries_k, rt_in 31 rfl rfl, ⟨by decide +kernel, by decide +kernel⟩, by decide +kernel, ⟨_, _, rfl, rt_in 333 rfl rfl, rt_in 335 rfl rfl, rt_in 6 rfl rfl⟩⟩
set_option maxRecDepth 100000 in
theorem rt_c_35 : rt_cP (4, 177, 0, mSt_takeOccurrence, 3) := ⟨mSt_takeOccurrence_k, rt_in 31 rfl rfl, ⟨by decide +kernel, by decide +kernel⟩, by decide +kernel, ⟨_, _, rfl, rt_in 354 rfl rfl, rt_in 356 rfl rfl, rt_in 7 rfl rfl⟩⟩
set_option maxRecDepth 100000 in
theorem rt_c_36 : rt_cP (4, 180, 0, mDr_valueAt, 1) := ⟨mDr_valueAt_k, rt_in 33 rfl rfl, ⟨by decide +kernel, by decide +kernel⟩, by decide +kernel, ⟨_, _, rfl, rt_in 358 rfl rfl, rt_in 359 rfl rfl, rt_in 360 rfl rfl⟩⟩
set_option maxRecDepth 100000 in
theorem rt_c_37 : rt_cP (4, 183, 0, mCo_add, 4) := ⟨mCo_add_k, rt_in 35 rfl rfl, ⟨by decide +kernel, by decide +kernel⟩, by decide +kernel, ⟨_, _, rfl, rt_in 345 rfl rfl, rt_in 346 rfl rfl, rt_in 347 rfl rfl⟩⟩
set_option maxRecDepth 100000 in
theorem rt_c_38 : rt_cP (4, 186, 0, mSc_columnsIn, 1) := ⟨mSc_columnsIn_k, rt_in 32 rfl rfl, ⟨by decide +kernel, by decide +kernel⟩, by decide +kernel, ⟨_, _, rfl, rt_in 338 rfl rfl, rt_in 339 rfl rfl, rt_in 340 rfl rfl⟩⟩
set_option maxRecDepth 100000 in
theorem rt_c_39 : rt_cP (4, 190, 1, mSt_holds, 2) := ⟨mSt_holds_k, rt_in 31 rfl rfl, ⟨by decide +kernel, by decide +kernel⟩, by decide +kernel, ⟨rt_in 342 rfl rfl, rt_in 343 rfl rfl⟩⟩
set_option maxRecDepth 100000 in
theorem rt_c_40 : rt_cP (4, 194, 0, mCo_startOf, 2) := ⟨mCo_startOf_k, rt_in 35 rfl rfl, ⟨by decide +kernel, by decide +kernel⟩, by decide +kernel, ⟨_, _, rfl, rt_in 411 rfl rfl, rt_in 412 rfl rfl, rt_in 413 rfl rfl⟩⟩
set_option maxRecDepth 100000 in
theorem rt_c_41 : rt_cP (4, 197, 0, mSt_putField, 2) := ⟨mSt_putField_k, rt_in 31 rfl rfl, ⟨by decide +kernel, by decide +kernel⟩, by decide +kernel, ⟨_, _, rfl, rt_in 421 rfl rfl, rt_in 423 rfl rfl, rt_in 10 rfl rfl⟩⟩
set_option maxRecDepth 100000 in
theorem rt_c_42 : rt_cP (4, 200, 1, mSt_lowestOf, 1) := ⟨mSt_lowestOf_k, rt_in 31 rfl rfl, ⟨by decide +kernel, by decide +kernel⟩, by decide +kernel, ⟨rt_in 425 rfl rfl, rt_in 426 rfl rfl⟩⟩
set_option maxRecDepth 100000 in
theorem rt_c_43 : rt_cP (4, 204, 0, mSt_peek, 2) := ⟨mSt_peek_k, rt_in 31 rfl rfl, ⟨by decide +kernel, by decide +kernel⟩, by decide +kernel, ⟨_, _, rfl, rt_in 428 rfl rfl, rt_in 430 rfl rfl, rt_in 11 rfl rfl⟩⟩
set_option maxRecDepth 100000 in
theorem rt_c_44 : rt_cP (4, 207, 0, mSt_passEmptyEntries, 1) := ⟨mSt_passEmptyEntries_k, rt_in 31 rfl rfl, ⟨by decide +kernel, by decide +kernel⟩, by decide +kernel, ⟨_, _, rfl, rt_in 436 rfl rfl, rt_in 438 rfl rfl, rt_in 13 rfl rfl⟩⟩
set_option maxRecDepth 100000 in
theorem rt_c_45 : rt_cP (4, 211, 0, mSt_putOccurrence, 2) := ⟨mSt_putOccurrence_k, rt_in 31 rfl rfl, ⟨by decide +kernel, by decide +kernel⟩, by decide +kernel, ⟨_, _, rfl, rt_in 444 rfl rfl, rt_in 446 rfl rfl, rt_in 15 rfl rfl⟩⟩
set_option maxRecDepth 100000 in
theorem rt_c_46 : rt_cP (4, 214, 0, mSt_comesAgain, 2) := ⟨mSt_comesAgain_k, rt_in 31 rfl rfl, ⟨by decide +kernel, by decide +kernel⟩, by decide +kernel, ⟨_, _, rfl, rt_in 453 rfl rfl, rt_in 455 rfl rfl, rt_in 16 rfl rfl⟩⟩
set_option maxRecDepth 100000 in
theorem rt_c_47 : rt_cP (4, 218, 0, mEv_add, 2) := ⟨mEv_add_k, rt_in 34 rfl rfl, ⟨by decide +kernel, by decide +kernel⟩, by decide +kernel, ⟨_, _, rfl, rt_in 448 rfl rfl, rt_in 449 rfl rfl, rt_in 450 rfl rfl⟩⟩
set_option maxRecDepth 100000 in
theorem rt_c_48 : rt_cP (4, 219, 0, mSt_pass, 1) := ⟨mSt_pass_k, rt_in 31 rfl rfl, ⟨by decide +kernel, by decide +kernel⟩, by decide +kernel, ⟨_, _, rfl, rt_in 440 rfl rfl, rt_in 442 rfl rfl, rt_in 14 rfl rfl⟩⟩
set_option maxRecDepth 100000 in
theorem rt_c_49 : rt_cP (4, 222, 0, mSt_isCursor, 1) := ⟨mSt_isCursor_k, rt_in 31 rfl rfl, ⟨by decide +kernel, by decide +kernel⟩, by decide +kernel, ⟨_, _, rfl, rt_in 432 rfl rfl, rt_in 434 rfl rfl, rt_in 12 rfl rfl⟩⟩
set_option maxRecDepth 100000 in
theorem rt_c_50 : rt_cP (4, 230, 1, mAr_copyOf, 2) := ⟨mAr_copyOf_k, rt_in 38 rfl rfl, ⟨by decide +kernel, by decide +kernel⟩, by decide +kernel, ⟨rt_in 277 rfl rfl, rt_in 278 rfl rfl⟩⟩
set_option maxRecDepth 100000 in
theorem rt_c_51 : rt_cP (0, 26, 0, mCo_has, 1) := ⟨mCo_has_k, rt_in 35 rfl rfl, ⟨by decide +kernel, by decide +kernel⟩, by decide +kernel, ⟨_, _, rfl, rt_in 349 rfl rfl, rt_in 350 rfl rfl, rt_in 351 rfl rfl⟩⟩
set_option maxRecDepth 100000 in
theorem rt_c_52 : rt_cP (0, 30, 4, mSt_withRoom, 2) := ⟨mSt_withRoom_k, rt_in 31 rfl rfl, ⟨by decide +kernel, by decide +kernel⟩, by decide +kernel, ⟨⟨"Striping", rt_inN 353 rfl rfl⟩, rt_in 274 rfl rfl⟩⟩
set_option maxRecDepth 100000 in
theorem rt_c_53 : rt_cP (0, 34, 0, mCo_sizeOf, 1) := ⟨mCo_sizeOf_k, rt_in 35 rfl rfl, ⟨by decide +kernel, by decide +kernel⟩, by decide +kernel, ⟨_, _, rfl, rt_in 415 rfl rfl, rt_in 386 rfl rfl, rt_in 387 rfl rfl⟩⟩
set_option maxRecDepth 100000 in
theorem rt_c_54 : rt_cP (0, 38, 0, mCo_read, 3) := ⟨mCo_read_k, rt_in 35 rfl rfl, ⟨by decide +kernel, by decide +kernel⟩, by decide +kernel, ⟨_, _, rfl, rt_in 416 rfl rfl, rt_in 394 rfl rfl, rt_in 395 rfl rfl⟩⟩
set_option maxRecDepth 100000 in
theorem rt_c_55 : rt_cP (1, 24, 0, mDr_clear, 0) := ⟨mDr_clear_k, rt_in 33 rfl rfl, ⟨by decide +kernel, by decide +kernel⟩, by decide +kernel, ⟨_, _, rfl, rt_in 235 rfl rfl, rt_in 236 rfl rfl, rt_in 237 rfl rfl⟩⟩
set_option maxRecDepth 100000 in
theorem rt_c_56 : rt_cP (1, 38, 4, mSt_withRoom, 2) := ⟨mSt_withRoom_k, rt_in 31 rfl rfl, ⟨by decide +kernel, by decide +kernel⟩, by decide +kernel, ⟨⟨"Striping", rt_inN 273 rfl rfl⟩, rt_in 274 rfl rfl⟩⟩
set_option maxRecDepth 100000 in
theorem rt_c_57 : rt_cP (2, 19, 4, mSt_withRoom, 2) := ⟨mSt_withRoom_k, rt_in 31 rfl rfl, ⟨by decide +kernel, by decide +kernel⟩, by decide +kernel, ⟨⟨"Striping", rt_inN 452 rfl rfl⟩, rt_in 274 rfl rfl⟩⟩
set_option maxRecDepth 100000 in
theorem rt_c_58 : rt_cP (3, 45, 0, mSc_mayHold, 1) := ⟨mSc_mayHold_k, rt_in 32 rfl rfl, ⟨by decide +kernel, by decide +kernel⟩, by decide +kernel, ⟨_, _, rfl, rt_in 191 rfl rfl, rt_in 193 rfl rfl, rt_in 0 rfl rfl⟩⟩
set_option maxRecDepth 100000 in
theorem rt_c_59 : rt_cP (3, 49, 0, mSc_depthOf, 1) := ⟨mSc_depthOf_k, rt_in 32 rfl rfl, ⟨by decide +kernel, by decide +kernel⟩, by decide +kernel, ⟨_, _, rfl, rt_in 203 rfl rfl, rt_in 204 rfl rfl, rt_in 205 rfl rfl⟩⟩
set_option maxRecDepth 100000 in
theorem rt_c_60 : rt_cP (3, 53, 0, mSc_repetitionOf, 1) := ⟨mSc_repetitionOf_k, rt_in 32 rfl rfl, ⟨by decide +kernel, by decide +kernel⟩, by decide +kernel, ⟨_, _, rfl, rt_in 207 rfl rfl, rt_in 208 rfl rfl, rt_in 209 rfl rfl⟩⟩
set_option maxRecDepth 100000 in
theorem rt_c_61 : rt_cP (3, 56, 0, mSc_definitionOf, 1) := ⟨mSc_definitionOf_k, rt_in 32 rfl rfl, ⟨by decide +kernel, by decide +kernel⟩, by decide +kernel, ⟨_, _, rfl, rt_in 211 rfl rfl, rt_in 212 rfl rfl, rt_in 213 rfl rfl⟩⟩
set_option maxRecDepth 100000 in
theorem rt_c_62 : rt_cP (3, 62, 0, mSc_stretch, 2) := ⟨mSc_stretch_k, rt_in 32 rfl rfl, ⟨by decide +kernel, by decide +kernel⟩, by decide +kernel, ⟨_, _, rfl, rt_in 215 rfl rfl, rt_in 217 rfl rfl, rt_in 1 rfl rfl⟩⟩
set_option maxRecDepth 100000 in
theorem rt_c_63 : rt_cP (3, 66, 0, mSc_isGroup, 1) := ⟨mSc_isGroup_k, rt_in 32 rfl rfl, ⟨by decide +kernel, by decide +kernel⟩, by decide +kernel, ⟨_, _, rfl, rt_in 195 rfl rfl, rt_in 196 rfl rfl, rt_in 197 rfl rfl⟩⟩
set_option maxRecDepth 100000 in
theorem rt_c_64 : rt_cP (3, 69, 0, mSc_has, 1) := ⟨mSc_has_k, rt_in 32 rfl rfl, ⟨by decide +kernel, by decide +kernel⟩, by decide +kernel, ⟨_, _, rfl, rt_in 199 rfl rfl, rt_in 200 rfl rfl, rt_in 201 rfl rfl⟩⟩
set_option maxRecDepth 100000 in
theorem rt_c_65 : rt_cP (6, 9, 2, mSt_init, 0) := ⟨mSt_init_k, rt_in 31 rfl rfl, ⟨by decide +kernel, by decide +kernel⟩, by decide +kernel, ⟨rt_in 42 rfl rfl, rt_in 43 rfl rfl, rfl, rfl⟩⟩
set_option maxRecDepth 100000 in
theorem rt_c_66 : rt_cP (6, 12, 2, mMo_init, 0) := ⟨mMo_init_k, rt_in 37 rfl rfl, ⟨by decide +kernel, by decide +kernel⟩, by decide +kernel, ⟨rt_in 467 rfl rfl, rt_in 468 rfl rfl, rfl, rfl⟩⟩
set_option maxRecDepth 100000 in
theorem rt_c_67 : rt_cP (6, 13, 0, mSt_field, 3) := ⟨mSt_field_k, rt_in 31 rfl rfl, ⟨by decide +kernel, by decide +kernel⟩, by decide +kernel, ⟨_, _, rfl, rt_in 183 rfl rfl, rt_in 184 rfl rfl, rt_in 185 rfl rfl⟩⟩
set_option maxRecDepth 100000 in
theorem rt_c_68 : rt_cP (6, 17, 0, mMo_field, 3) := ⟨mMo_field_k, rt_in 37 rfl rfl, ⟨by decide +kernel, by decide +kernel⟩, by decide +kernel, ⟨_, _, rfl, rt_in 548 rfl rfl, rt_in 549 rfl rfl, rt_in 550 rfl rfl⟩⟩
set_option maxRecDepth 100000 in
theorem rt_c_69 : rt_cP (6, 18, 0, mSt_ready, 0) := ⟨mSt_ready_k, rt_in 31 rfl rfl, ⟨by decide +kernel, by decide +kernel⟩, by decide +kernel, ⟨_, _, rfl, rt_in 219 rfl rfl, rt_in 220 rfl rfl, rt_in 221 rfl rfl⟩⟩
set_option maxRecDepth 100000 in
theorem rt_c_70 : rt_cP (6, 22, 0, mMo_ready, 0) := ⟨mMo_ready_k, rt_in 37 rfl rfl, ⟨by decide +kernel, by decide +kernel⟩, by decide +kernel, ⟨_, _, rfl, rt_in 556 rfl rfl, rt_in 557 rfl rfl, rt_in 558 rfl rfl⟩⟩
set_option maxRecDepth 100000 in
theorem rt_c_71 : rt_cP (6, 23, 0, mSt_begin, 0) := ⟨mSt_begin_k, rt_in 31 rfl rfl, ⟨by decide +kernel, by decide +kernel⟩, by decide +kernel, ⟨_, _, rfl, rt_in 227 rfl rfl, rt_in 228 rfl rfl, rt_in 229 rfl rfl⟩⟩
set_option maxRecDepth 100000 in
theorem rt_c_72 : rt_cP (6, 27, 0, mMo_begin, 0) := ⟨mMo_begin_k, rt_in 37 rfl rfl, ⟨by decide +kernel, by decide +kernel⟩, by decide +kernel, ⟨_, _, rfl, rt_in 580 rfl rfl, rt_in 581 rfl rfl, rt_in 582 rfl rfl⟩⟩
set_option maxRecDepth 100000 in
theorem rt_c_73 : rt_cP (6, 28, 0, mSt_open, 1) := ⟨mSt_open_k, rt_in 31 rfl rfl, ⟨by decide +kernel, by decide +kernel⟩, by decide +kernel, ⟨_, _, rfl, rt_in 239 rfl rfl, rt_in 240 rfl rfl, rt_in 241 rfl rfl⟩⟩
set_option maxRecDepth 100000 in
theorem rt_c_74 : rt_cP (6, 32, 0, mMo_open, 1) := ⟨mMo_open_k, rt_in 37 rfl rfl, ⟨by decide +kernel, by decide +kernel⟩, by decide +kernel, ⟨_, _, rfl, rt_in 584 rfl rfl, rt_in 585 rfl rfl, rt_in 586 rfl rfl⟩⟩
set_option maxRecDepth 100000 in
theorem rt_c_75 : rt_cP (6, 33, 0, mSt_leaf, 2) := ⟨mSt_leaf_k, rt_in 31 rfl rfl, ⟨by decide +kernel, by decide +kernel⟩, by decide +kernel, ⟨_, _, rfl, rt_in 297 rfl rfl, rt_in 298 rfl rfl, rt_in 299 rfl rfl⟩⟩
set_option maxRecDepth 100000 in
theorem rt_c_76 : rt_cP (6, 37, 0, mMo_leaf, 2) := ⟨mMo_leaf_k, rt_in 37 rfl rfl, ⟨by decide +kernel, by decide +kernel⟩, by decide +kernel, ⟨_, _, rfl, rt_in 596 rfl rfl, rt_in 597 rfl rfl, rt_in 598 rfl rfl⟩⟩
set_option maxRecDepth 100000 in
theorem rt_c_77 : rt_cP (6, 38, 0, mSt_close, 0) := ⟨mSt_close_k, rt_in 31 rfl rfl, ⟨by decide +kernel, by decide +kernel⟩, by decide +kernel, ⟨_, _, rfl, rt_in 305 rfl rfl, rt_in 306 rfl rfl, rt_in 307 rfl rfl⟩⟩
set_option maxRecDepth 100000 in
theorem rt_c_78 : rt_cP (6, 41, 0, mMo_close, 0) := ⟨mMo_close_k, rt_in 37 rfl rfl, ⟨by decide +kernel, by decide +kernel⟩, by decide +kernel, ⟨_, _, rfl, rt_in 600 rfl rfl, rt_in 601 rfl rfl, rt_in 602 rfl rfl⟩⟩
set_option maxRecDepth 100000 in
theorem rt_c_79 : rt_cP (6, 42, 0, mSt_drop, 0) := ⟨mSt_drop_k, rt_in 31 rfl rfl, ⟨by decide +kernel, by decide +kernel⟩, by decide +kernel, ⟨_, _, rfl, rt_in 368 rfl rfl, rt_in 369 rfl rfl, rt_in 370 rfl rfl⟩⟩
set_option maxRecDepth 100000 in
theorem rt_c_80 : rt_cP (6, 45, 0, mMo_drop, 0) := ⟨mMo_drop_k, rt_in 37 rfl rfl, ⟨by decide +kernel, by decide +kernel⟩, by decide +kernel, ⟨_, _, rfl, rt_in 604 rfl rfl, rt_in 605 rfl rfl, rt_in 606 rfl rfl⟩⟩
set_option maxRecDepth 100000 in
theorem rt_c_81 : rt_cP (6, 46, 0, mSt_records, 0) := ⟨mSt_records_k, rt_in 31 rfl rfl, ⟨by decide +kernel, by decide +kernel⟩, by decide +kernel, ⟨_, _, rfl, rt_in 372 rfl rfl, rt_in 373 rfl rfl, rt_in 374 rfl rfl⟩⟩
set_option maxRecDepth 100000 in
theorem rt_c_82 : rt_cP (6, 49, 0, mMo_records, 0) := ⟨mMo_records_k, rt_in 37 rfl rfl, ⟨by decide +kernel, by decide +kernel⟩, by decide +kernel, ⟨_, _, rfl, rt_in 608 rfl rfl, rt_in 609 rfl rfl, rt_in 610 rfl rfl⟩⟩
set_option maxRecDepth 100000 in
theorem rt_c_83 : rt_cP (6, 50, 0, mSt_level, 2) := ⟨mSt_level_k, rt_in 31 rfl rfl, ⟨by decide +kernel, by decide +kernel⟩, by decide +kernel, ⟨_, _, rfl, rt_in 376 rfl rfl, rt_in 377 rfl rfl, rt_in 378 rfl rfl⟩⟩
set_option maxRecDepth 100000 in
theorem rt_c_84 : rt_cP (6, 54, 0, mMo_level, 2) := ⟨mMo_level_k, rt_in 37 rfl rfl, ⟨by decide +kernel, by decide +kernel⟩, by decide +kernel, ⟨_, _, rfl, rt_in 564 rfl rfl, rt_in 565 rfl rfl, rt_in 566 rfl rfl⟩⟩
set_option maxRecDepth 100000 in
theorem rt_c_85 : rt_cP (6, 55, 0, mSt_entries, 1) := ⟨mSt_entries_k, rt_in 31 rfl rfl, ⟨by decide +kernel, by decide +kernel⟩, by decide +kernel, ⟨_, _, rfl, rt_in 381 rfl rfl, rt_in 382 rfl rfl, rt_in 383 rfl rfl⟩⟩
set_option maxRecDepth 100000 in
theorem rt_c_86 : rt_cP (6, 59, 0, mMo_entries, 1) := ⟨mMo_entries_k, rt_in 37 rfl rfl, ⟨by decide +kernel, by decide +kernel⟩, by decide +kernel, ⟨_, _, rfl, rt_in 612 rfl rfl, rt_in 613 rfl rfl, rt_in 614 rfl rfl⟩⟩
set_option maxRecDepth 100000 in
theorem rt_c_87 : rt_cP (6, 60, 0, mSt_entry, 3) := ⟨mSt_entry_k, rt_in 31 rfl rfl, ⟨by decide +kernel, by decide +kernel⟩, by decide +kernel, ⟨_, _, rfl, rt_in 389 rfl rfl, rt_in 390 rfl rfl, rt_in 391 rfl rfl⟩⟩
set_option maxRecDepth 100000 in
theorem rt_c_88 : rt_cP (6, 64, 0, mMo_entry, 3) := ⟨mMo_entry_k, rt_in 37 rfl rfl, ⟨by decide +kernel, by decide +kernel⟩, by decide +kernel, ⟨_, _, rfl, rt_in 632 rfl rfl, rt_in 633 rfl rfl, rt_in 634 rfl rfl⟩⟩
set_option maxRecDepth 100000 in
theorem rt_c_89 : rt_cP (6, 65, 0, mSt_assemble, 3) := ⟨mSt_assemble_k, rt_in 31 rfl rfl, ⟨by decide +kernel, by decide +kernel⟩, by decide +kernel, ⟨_, _, rfl, rt_in 397 rfl rfl, rt_in 398 rfl rfl, rt_in 399 rfl rfl⟩⟩
set_option maxRecDepth 100000 in
theorem rt_c_90 : rt_cP (6, 68, 0, mMo_assemble, 3) := ⟨mMo_assemble_k, rt_in 37 rfl rfl, ⟨by decide +kernel, by decide +kernel⟩, by decide +kernel, ⟨_, _, rfl, rt_in 636 rfl rfl, rt_in 637 rfl rfl, rt_in 638 rfl rfl⟩⟩
set_option maxRecDepth 100000 in
theorem rt_c_91 : rt_cP (6, 69, 0, mSt_event, 2) := ⟨mSt_event_k, rt_in 31 rfl rfl, ⟨by decide +kernel, by decide +kernel⟩, by decide +kernel, ⟨_, _, rfl, rt_in 457 rfl rfl, rt_in 458 rfl rfl, rt_in 459 rfl rfl⟩⟩
set_option maxRecDepth 100000 in
theorem rt_c_92 : rt_cP (6, 72, 0, mMo_event, 2) := ⟨mMo_event_k, rt_in 37 rfl rfl, ⟨by decide +kernel, by decide +kernel⟩, by decide +kernel, ⟨_, _, rfl, rt_in 648 rfl rfl, rt_in 649 rfl rfl, rt_in 650 rfl rfl⟩⟩
set_option maxRecDepth 100000 in
theorem rt_c_93 : rt_cP (5, 61, 0, mMo_isAround, 1) := ⟨mMo_isAround_k, rt_in 37 rfl rfl, ⟨by decide +kernel, by decide +kernel⟩, by decide +kernel, ⟨_, _, rfl, rt_in 552 rfl rfl, rt_in 554 rfl rfl, rt_in 17 rfl rfl⟩⟩
set_option maxRecDepth 100000 in
theorem rt_c_94 : rt_cP (5, 65, 0, mMo_columns, 0) := ⟨mMo_columns_k, rt_in 37 rfl rfl, ⟨by decide +kernel, by decide +kernel⟩, by decide +kernel, ⟨_, _, rfl, rt_in 560 rfl rfl, rt_in 562 rfl rfl, rt_in 18 rfl rfl⟩⟩
set_option maxRecDepth 100000 in
theorem rt_c_95 : rt_cP (5, 69, 0, mMo_isField, 1) := ⟨mMo_isField_k, rt_in 37 rfl rfl, ⟨by decide +kernel, by decide +kernel⟩, by decide +kernel, ⟨_, _, rfl, rt_in 568 rfl rfl, rt_in 570 rfl rfl, rt_in 19 rfl rfl⟩⟩
set_option maxRecDepth 100000 in
theorem rt_c_96 : rt_cP (5, 72, 0, mMo_count, 2) := ⟨mMo_count_k, rt_in 37 rfl rfl, ⟨by decide +kernel, by decide +kernel⟩, by decide +kernel, ⟨_, _, rfl, rt_in 572 rfl rfl, rt_in 574 rfl rfl, rt_in 20 rfl rfl⟩⟩
set_option maxRecDepth 100000 in
theorem rt_c_97 : rt_cP (5, 76, 0, mMo_columnOf, 1) := ⟨mMo_columnOf_k, rt_in 37 rfl rfl, ⟨by decide +kernel, by decide +kernel⟩, by decide +kernel, ⟨_, _, rfl, rt_in 576 rfl rfl, rt_in 578 rfl rfl, rt_in 21 rfl rfl⟩⟩
set_option maxRecDepth 100000 in
theorem rt_c_98 : rt_cP (5, 89, 0, mMo_has, 1) := ⟨mMo_has_k, rt_in 37 rfl rfl, ⟨by decide +kernel, by decide +kernel⟩, by decide +kernel, ⟨_, _, rfl, rt_in 592 rfl rfl, rt_in 594 rfl rfl, rt_in 23 rfl rfl⟩⟩
set_option maxRecDepth 100000 in
theorem rt_c_99 : rt_cP (5, 92, 0, mMo_comes, 3) := ⟨mMo_comes_k, rt_in 37 rfl rfl, ⟨by decide +kernel, by decide +kernel⟩, by decide +kernel, ⟨_, _, rfl, rt_in 588 rfl rfl, rt_in 590 rfl rfl, rt_in 22 rfl rfl⟩⟩
set_option maxRecDepth 100000 in
theorem rt_c_100 : rt_cP (5, 99, 0, mMo_next, 3) := ⟨mMo_next_k, rt_in 37 rfl rfl, ⟨by decide +kernel, by decide +kernel⟩, by decide +kernel, ⟨_, _, rfl, rt_in 624 rfl rfl, rt_in 626 rfl rfl, rt_in 26 rfl rfl⟩⟩
set_option maxRecDepth 100000 in
theorem rt_c_101 : rt_cP (5, 106, 0, mMo_deeper, 2) := ⟨mMo_deeper_k, rt_in 37 rfl rfl, ⟨by decide +kernel, by decide +kernel⟩, by decide +kernel, ⟨_, _, rfl, rt_in 628 rfl rfl, rt_in 630 rfl rfl, rt_in 27 rfl rfl⟩⟩
set_option maxRecDepth 100000 in
theorem rt_c_102 : rt_cP (5, 118, 0, mMo_goesTo, 1) := ⟨mMo_goesTo_k, rt_in 37 rfl rfl, ⟨by decide +kernel, by decide +kernel⟩, by decide +kernel, ⟨_, _, rfl, rt_in 616 rfl rfl, rt_in 618 rfl rfl, rt_in 24 rfl rfl⟩⟩
set_option maxRecDepth 100000 in
theorem rt_c_103 : rt_cP (5, 121, 0, mMo_finds, 1) := ⟨mMo_finds_k, rt_in 37 rfl rfl, ⟨by decide +kernel, by decide +kernel⟩, by decide +kernel, ⟨_, _, rfl, rt_in 620 rfl rfl, rt_in 622 rfl rfl, rt_in 25 rfl rfl⟩⟩
set_option maxRecDepth 100000 in
theorem rt_c_104 : rt_cP (5, 127, 0, mMo_wants, 2) := ⟨mMo_wants_k, rt_in 37 rfl rfl, ⟨by decide +kernel, by decide +kernel⟩, by decide +kernel, ⟨_, _, rfl, rt_in 640 rfl rfl, rt_in 642 rfl rfl, rt_in 28 rfl rfl⟩⟩
set_option maxRecDepth 100000 in
theorem rt_c_105 : rt_cP (5, 131, 0, mMo_tells, 2) := ⟨mMo_tells_k, rt_in 37 rfl rfl, ⟨by decide +kernel, by decide +kernel⟩, by decide +kernel, ⟨_, _, rfl, rt_in 644 rfl rfl, rt_in 646 rfl rfl, rt_in 29 rfl rfl⟩⟩
set_option maxRecDepth 100000 in
theorem rt_c_all : ∀ x ∈ rt_cL, rt_cP x := List.forall_mem_cons.mpr ⟨rt_c_0, List.forall_mem_cons.mpr ⟨rt_c_1, List.forall_mem_cons.mpr ⟨rt_c_2, List.forall_mem_cons.mpr ⟨rt_c_3, List.forall_mem_cons.mpr ⟨rt_c_4, List.forall_mem_cons.mpr ⟨rt_c_5, List.forall_mem_cons.mpr ⟨rt_c_6, List.forall_mem_cons.mpr ⟨rt_c_7, List.forall_mem_cons.mpr ⟨rt_c_8, List.forall_mem_cons.mpr ⟨rt_c_9, List.forall_mem_cons.mpr ⟨rt_c_10, List.forall_mem_cons.mpr ⟨rt_c_11, List.forall_mem_cons.mpr ⟨rt_c_12, List.forall_mem_cons.mpr ⟨rt_c_13, List.forall_mem_cons.mpr ⟨rt_c_14, List.forall_mem_cons.mpr ⟨rt_c_15, List.forall_mem_cons.mpr ⟨rt_c_16, List.forall_mem_cons.mpr ⟨rt_c_17, List.forall_mem_cons.mpr ⟨rt_c_18, List.forall_mem_cons.mpr ⟨rt_c_19, List.forall_mem_cons.mpr ⟨rt_c_20, List.forall_mem_cons.mpr ⟨rt_c_21, List.forall_mem_cons.mpr ⟨rt_c_22, List.forall_mem_cons.mpr ⟨rt_c_23, List.forall_mem_cons.mpr ⟨rt_c_24, List.forall_mem_cons.mpr ⟨rt_c_25, List.forall_mem_cons.mpr ⟨rt_c_26, List.forall_mem_cons.mpr ⟨rt_c_27, List.forall_mem_cons.mpr ⟨rt_c_28, List.forall_mem_cons.mpr ⟨rt_c_29, List.forall_mem_cons.mpr ⟨rt_c_30, List.forall_mem_cons.mpr ⟨rt_c_31, List.forall_mem_cons.mpr ⟨rt_c_32, List.forall_mem_cons.mpr ⟨rt_c_33, List.forall_mem_cons.mpr ⟨rt_c_34, List.forall_mem_cons.mpr ⟨rt_c_35, List.forall_mem_cons.mpr ⟨rt_c_36, List.forall_mem_cons.mpr ⟨rt_c_37, List.forall_mem_cons.mpr ⟨rt_c_38, List.forall_mem_cons.mpr ⟨rt_c_39, List.forall_mem_cons.mpr ⟨rt_c_40, List.forall_mem_cons.mpr ⟨rt_c_41, List.forall_mem_cons.mpr ⟨rt_c_42, List.forall_mem_cons.mpr ⟨rt_c_43, List.forall_mem_cons.mpr ⟨rt_c_44, List.forall_mem_cons.mpr ⟨rt_c_45, List.forall_mem_cons.mpr ⟨rt_c_46, List.forall_mem_cons.mpr ⟨rt_c_47, List.forall_mem_cons.mpr ⟨rt_c_48, List.forall_mem_cons.mpr ⟨rt_c_49, List.forall_mem_cons.mpr ⟨rt_c_50, List.forall_mem_cons.mpr ⟨rt_c_51, List.forall_mem_cons.mpr ⟨rt_c_52, List.forall_mem_cons.mpr ⟨rt_c_53, List.forall_mem_cons.mpr ⟨rt_c_54, List.forall_mem_cons.mpr ⟨rt_c_55, List.forall_mem_cons.mpr ⟨rt_c_56, List.forall_mem_cons.mpr ⟨rt_c_57, List.forall_mem_cons.mpr ⟨rt_c_58, List.forall_mem_cons.mpr ⟨rt_c_59, List.forall_mem_cons.mpr ⟨rt_c_60, List.forall_mem_cons.mpr ⟨rt_c_61, List.forall_mem_cons.mpr ⟨rt_c_62, List.forall_mem_cons.mpr ⟨rt_c_63, List.forall_mem_cons.mpr ⟨rt_c_64, List.forall_mem_cons.mpr ⟨rt_c_65, List.forall_mem_cons.mpr ⟨rt_c_66, List.forall_mem_cons.mpr ⟨rt_c_67, List.forall_mem_cons.mpr ⟨rt_c_68, List.forall_mem_cons.mpr ⟨rt_c_69, List.forall_mem_cons.mpr ⟨rt_c_70, List.forall_mem_cons.mpr ⟨rt_c_71, List.forall_mem_cons.mpr ⟨rt_c_72, List.forall_mem_cons.mpr ⟨rt_c_73, List.forall_mem_cons.mpr ⟨rt_c_74, List.forall_mem_cons.mpr ⟨rt_c_75, List.forall_mem_cons.mpr ⟨rt_c_76, List.forall_mem_cons.mpr ⟨rt_c_77, List.forall_mem_cons.mpr ⟨rt_c_78, List.forall_mem_cons.mpr ⟨rt_c_79, List.forall_mem_cons.mpr ⟨rt_c_80, List.forall_mem_cons.mpr ⟨rt_c_81, List.forall_mem_cons.mpr ⟨rt_c_82, List.forall_mem_cons.mpr ⟨rt_c_83, List.forall_mem_cons.mpr ⟨rt_c_84, List.forall_mem_cons.mpr ⟨rt_c_85, List.forall_mem_cons.mpr ⟨rt_c_86, List.forall_mem_cons.mpr ⟨rt_c_87, List.forall_mem_cons.mpr ⟨rt_c_88, List.forall_mem_cons.mpr ⟨rt_c_89, List.forall_mem_cons.mpr ⟨rt_c_90, List.forall_mem_cons.mpr ⟨rt_c_91, List.forall_mem_cons.mpr ⟨rt_c_92, List.forall_mem_cons.mpr ⟨rt_c_93, List.forall_mem_cons.mpr ⟨rt_c_94, List.forall_mem_cons.mpr ⟨rt_c_95, List.forall_mem_cons.mpr ⟨rt_c_96, List.forall_mem_cons.mpr ⟨rt_c_97, List.forall_mem_cons.mpr ⟨rt_c_98, List.forall_mem_cons.mpr ⟨rt_c_99, List.forall_mem_cons.mpr ⟨rt_c_100, List.forall_mem_cons.mpr ⟨rt_c_101, List.forall_mem_cons.mpr ⟨rt_c_102, List.forall_mem_cons.mpr ⟨rt_c_103, List.forall_mem_cons.mpr ⟨rt_c_104, List.forall_mem_cons.mpr ⟨rt_c_105, fun _ h => absurd h List.not_mem_nil⟩⟩⟩⟩⟩⟩⟩⟩⟩⟩⟩⟩⟩⟩⟩⟩⟩⟩⟩⟩⟩⟩⟩⟩⟩⟩⟩⟩⟩⟩⟩⟩⟩⟩⟩⟩⟩⟩⟩⟩⟩⟩⟩⟩⟩⟩⟩⟩⟩⟩⟩⟩⟩⟩⟩⟩⟩⟩⟩⟩⟩⟩⟩⟩⟩⟩⟩⟩⟩⟩⟩⟩⟩⟩⟩⟩⟩⟩⟩⟩⟩⟩⟩⟩⟩⟩⟩⟩⟩⟩⟩⟩⟩⟩⟩⟩⟩⟩⟩⟩⟩⟩⟩⟩⟩⟩
set_option maxRecDepth 100000 in
theorem rt_c_ok {ci k kd n : Nat} {M' : ri_M} (h : rt_c ci k = some (kd, M', n)) : rt_cP (ci, k, kd, M', n) := rt_c_all _ (rt_lk_mem h)
end
section
/-! (written by gen03.py) -/
set_option maxRecDepth 100000 in
theorem rt_inst0 : Cond.instantiable "Striping$Columns" 2 ∈ rt_tbl := rt_in 138 rfl rfl
set_option maxRecDepth 100000 in
theorem rt_inst1 : Cond.instantiable "Striping$Draft" 7 ∈ rt_tbl := rt_in 93 rfl rfl
set_option maxRecDepth 100000 in
theorem rt_inst2 : Cond.instantiable "Striping$Events" 2 ∈ rt_tbl := rt_in 124 rfl rfl
set_option maxRecDepth 100000 in
theorem rt_inst3 : Cond.instantiable "Striping$Schema" 11 ∈ rt_tbl := rt_in 49 rfl rfl
set_option maxRecDepth 100000 in
theorem rt_inst4 : Cond.instantiable "Striping" 9 ∈ rt_tbl := rt_in 41 rfl rfl
set_option maxRecDepth 100000 in
theorem rt_inst5 : Cond.instantiable "StripingModel" 25 ∈ rt_tbl := rt_in 466 rfl rfl
end
section
/-! THE SMALL MACHINE: one step, and a run. rt_f, rt_c, rt_n, rt_i, rt_l: what a class's pool numbers mean (part 03). -/
/-- a step without cells -/
def ri_px (ci : Nat) (x : Instr × Nat × Nat × Int32) (L : List (Option Value)) (st : List Value) : Option ri_F :=
  match x with
  | (i, np, tg, kv) => match i with
    | .iconst _ => some (np, L, .int kv :: st)
    | .bipush _ => some (np, L, .int kv :: st)
    | .sipush _ => some (np, L, .int kv :: st)
    | .lconst k => some (np, L, .long (lN k) :: st)
    | .ldc k => match rt_i ci k with
      | some v => some (np, L, .int v :: st)
      | none => none
    | .ldc2_w k => match rt_l ci k with
      | some v => some (np, L, .long v :: st)
      | none => none
    | .aconst_null => some (np, L, .null :: st)
    | .iload k => match ri_get L k with
      | some (.int v) => some (np, L, .int v :: st)
      | _ => none
    | .iload_n k => match ri_get L k.val with
      | some (.int v) => some (np, L, .int v :: st)
      | _ => none
    | .lload k => match ri_get L k with
      | some (.long v) => some (np, L, .long v :: st)
      | _ => none
    | .lload_n k => match ri_get L k.val with
      | some (.long v) => some (np, L, .long v :: st)
      | _ => none
    | .aload k => match ri_get L k with
      | some (.ref v) => some (np, L, .ref v :: st)
      | _ => none
    | .aload_n k => match ri_get L k.val with
      | some (.ref v) => some (np, L, .ref v :: st)
      | _ => none
    | .istore k => match st, Nat.blt k L.length with
      | .int v :: r, true => some (np, ri_put L k (.int v), r)
      | _, _ => none
    | .istore_n k => match st, Nat.blt k.val L.length with
      | .int v :: r, true => some (np, ri_put L k.val (.int v), r)
      | _, _ => none
    | .lstore k => match st, Nat.blt (k + 1) L.length with
      | .long v :: r, true => some (np, ri_put L k (.long v), r)
      | _, _ => none
    | .lstore_n k => match st, Nat.blt (k.val + 1) L.length with
      | .long v :: r, true => some (np, ri_put L k.val (.long v), r)
      | _, _ => none
    | .astore k => match st, Nat.blt k L.length with
      | .ref v :: r, true => some (np, ri_put L k (.ref v), r)
      | _, _ => none
    | .astore_n k => match st, Nat.blt k.val L.length with
      | .ref v :: r, true => some (np, ri_put L k.val (.ref v), r)
      | _, _ => none
    | .iinc k _ => match ri_get L k, Nat.blt k L.length with
      | some (.int v), true => some (np, ri_put L k (.int (v + kv)), st)
      | _, _ => none
    | .iadd => match st with
      | .int y :: .int x :: r => some (np, L, .int (x + y) :: r)
      | _ => none
    | .isub => match st with
      | .int y :: .int x :: r => some (np, L, .int (x - y) :: r)
      | _ => none
    | .imul => match st with
      | .int y :: .int x :: r => some (np, L, .int (x * y) :: r)
      | _ => none
    | .iand => match st with
      | .int y :: .int x :: r => some (np, L, .int (x &&& y) :: r)
      | _ => none
    | .ior => match st with
      | .int y :: .int x :: r => some (np, L, .int (x ||| y) :: r)
      | _ => none
    | .ishl => match st with
      | .int y :: .int x :: r => some (np, L, .int (x <<< (y &&& 31)) :: r)
      | _ => none
    | .ishr => match st with
      | .int y :: .int x :: r => some (np, L, .int (x >>> (y &&& 31)) :: r)
      | _ => none
    | .iushr => match st with
      | .int y :: .int x :: r => some (np, L, .int (x.toUInt32 >>> (y.toUInt32 &&& Int32.toUInt32 31)).toInt32 :: r)
      | _ => none
    | .land => match st with
      | .long y :: .long x :: r => some (np, L, .long (x &&& y) :: r)
      | _ => none
    | .lor => match st with
      | .long y :: .long x :: r => some (np, L, .long (x ||| y) :: r)
      | _ => none
    | .lshl => match st with
      | .int y :: .long x :: r => some (np, L, .long (x <<< (y.toInt64 &&& 63)) :: r)
      | _ => none
    | .lushr => match st with
      | .int y :: .long x :: r => some (np, L, .long (x.toUInt64 >>> (y.toInt64.toUInt64 &&& Int64.toUInt64 63)).toInt64 :: r)
      | _ => none
    | .lcmp => match st with
      | .long y :: .long x :: r => some (np, L, .int (lg_cmp x y) :: r)
      | _ => none
    | .i2l => match st with
      | .int x :: r => some (np, L, .long x.toInt64 :: r)
      | _ => none
    | .l2i => match st with
      | .long x :: r => some (np, L, .int x.toInt32 :: r)
      | _ => none
    | .dup => match st with
      | va :: r => if va.category = 1 then some (np, L, va :: va :: r) else none
      | _ => none
    | .pop => match st with
      | va :: r => if va.category = 1 then some (np, L, r) else none
      | _ => none
    | .dup_x1 => match st with
      | va :: vb :: r => if va.category = 1 ∧ vb.category = 1 then some (np, L, va :: vb :: va :: r) else none
      | _ => none
    | .dup_x2 => match st with
      | va :: vb :: vd :: r => if va.category = 1 ∧ vb.category = 1 ∧ vd.category = 1 then some (np, L, va :: vb :: vd :: va :: r) else none
      | _ => none
    | .dup2 => match st with
      | va :: r => if va.category = 2 then some (np, L, va :: va :: r) else match r with
        | vb :: r => if va.category = 1 ∧ vb.category = 1 then some (np, L, va :: vb :: va :: vb :: r) else none
        | _ => none
      | _ => none
    | .ifCond cd _ => match st with
      | .int x :: r => match cd with
        | .eq => some (if x = 0 then tg else np, L, r)
        | .ne => some (if x = 0 then np else tg, L, r)
        | .lt => some (if x < 0 then tg else np, L, r)
        | .ge => some (if 0 ≤ x then tg else np, L, r)
        | .gt => some (if 0 < x then tg else np, L, r)
        | .le => some (if x ≤ 0 then tg else np, L, r)
      | _ => none
    | .if_icmp cd _ => match st with
      | .int y :: .int x :: r => match cd with
        | .eq => some (if x = y then tg else np, L, r)
        | .ne => some (if x = y then np else tg, L, r)
        | .lt => some (if x < y then tg else np, L, r)
        | .ge => some (if y ≤ x then tg else np, L, r)
        | .gt => some (if y < x then tg else np, L, r)
        | .le => some (if x ≤ y then tg else np, L, r)
      | _ => none
    | .goto _ => some (tg, L, st)
    | .tableswitch _ lo hi offs => match st with
      | .int x :: r => if x.toInt < lo ∨ hi < x.toInt then some (tg, L, r) else match offs[(x.toInt - lo).toNat]? with
        | some off => if 0 ≤ (kv.toInt : Int) + off then some (((kv.toInt : Int) + off).toNat, L, r) else none
        | none => none
      | _ => none
    | _ => none
/-- an int array that may be read (the script's type is no real one: it may not be written) -/
def ri_ai (e : ri_E) : Option (Nat × (Nat → Int32)) := match e with
  | .inl (.int, n, .inl f) => some (n, f)
  | .inl (.object _, n, .inl f) => some (n, f)
  | _ => none
/-- the cells of new int[n][m] at q -/
def ri_grid (h : Nat → Option ri_E) (q n m : Nat) : Nat → Option ri_E := fun a => if a = q then some (.inl (.array .int, n, .inr (.inr (.inr (.inr (fun i => if i < n then some (q + 1 + i) else none)))))) else if q < a ∧ a ≤ q + n then some (.inl (.int, m, .inl fun _ => 0)) else h a
/-- a step with cells -/
def ri_hx (M : ri_M) (i : Instr) (st : List Value) (σ : ri_S) : Option (List Value × ri_S) := match i with
  | .getfield k => match st with
    | .ref a :: r => match rt_f M.1 k with
      | some (cj, j, _, _) => match σ.1 a with
        | some (.inr (ck, fs)) => if ck = cj then (match fs[j]? with
          | some v => some (v :: r, σ)
          | none => none) else none
        | _ => none
      | none => none
    | _ => none
  | .putfield k => match st with
    | v :: .ref a :: r => match rt_f M.1 k with
      | some (cj, j, ty, fin) => match σ.1 a with
        | some (.inr (ck, fs)) => if ck = cj ∧ narrow ty v = v ∧ fits ty v = true ∧ j < fs.length ∧ (fin = 0 ∨ fin = 1 ∧ M.2.1.name = "<init>") then some (r, (ri_up σ.1 a (.inr (ck, fs.set j v)), σ.2)) else none
        | _ => none
      | none => none
    | _ => none
  | .iaload => match st with
    | .int j :: .ref a :: r => match σ.1 a with
      | some ea => match ri_ai ea with
        | some (n, f) => if j < 0 ∨ n ≤ j.toNatClampNeg then none else some (.int (f j.toNatClampNeg) :: r, σ)
        | none => none
      | none => none
    | _ => none
  | .laload => match st with
    | .int j :: .ref a :: r => match σ.1 a with
      | some (.inl (.long, n, .inr (.inl f))) => if j < 0 ∨ n ≤ j.toNatClampNeg then none else some (.long (f j.toNatClampNeg) :: r, σ)
      | _ => none
    | _ => none
  | .aaload => match st with
    | .int j :: .ref a :: r => match σ.1 a with
      | some (.inl (.array .int, n, .inr (.inr (.inr (.inr f))))) => if j < 0 ∨ n ≤ j.toNatClampNeg then none else some (va_rf (f j.toNatClampNeg) :: r, σ)
      | _ => none
    | _ => none
  | .iastore => match st with
    | .int x :: .int j :: .ref a :: r => match σ.1 a with
      | some (.inl (.int, n, .inl f)) => if j < 0 ∨ n ≤ j.toNatClampNeg then none else some (r, (ri_up σ.1 a (.inl (.int, n, .inl (upd f j.toNatClampNeg x))), σ.2))
      | _ => none
    | _ => none
  | .lastore => match st with
    | .long x :: .int j :: .ref a :: r => match σ.1 a with
      | some (.inl (.long, n, .inr (.inl f))) => if j < 0 ∨ n ≤ j.toNatClampNeg then none else some (r, (ri_up σ.1 a (.inl (.long, n, .inr (.inl (vp_updL f j.toNatClampNeg x)))), σ.2))
      | _ => none
    | _ => none
  | .baload => match st with
    | .int j :: .ref a :: r => match σ.1 a with
      | some (.inl (.boolean, n, .inl f)) => if j < 0 ∨ n ≤ j.toNatClampNeg then none else some (.int (f j.toNatClampNeg) :: r, σ)
      | _ => none
    | _ => none
  | .bastore => match st with
    | .int x :: .int j :: .ref a :: r => match σ.1 a with
      | some (.inl (.boolean, n, .inl f)) => if j < 0 ∨ n ≤ j.toNatClampNeg then none else some (r, (ri_up σ.1 a (.inl (.boolean, n, .inl (upd f j.toNatClampNeg (vp_nar .boolean x)))), σ.2))
      | _ => none
    | _ => none
  | .aastore => match st with
    | .ref v :: .int j :: .ref a :: r => match σ.1 a with
      | some (.inl (.array .int, n, .inr (.inr (.inr (.inr f))))) => match σ.1 v with
        | some (.inl (.int, _, .inl _)) => if j < 0 ∨ n ≤ j.toNatClampNeg then none else some (r, (ri_up σ.1 a (.inl (.array .int, n, .inr (.inr (.inr (.inr (va_up f j.toNatClampNeg (some v))))))), σ.2))
        | _ => none
      | _ => none
    | _ => none
  | .multianewarray k 2 => match rt_m M.1 k with
    | true => match st with
      | .int m :: .int n :: r => if n < 0 ∨ m < 0 ∨ 67108864 < n.toNatClampNeg ∨ 67108864 < m.toNatClampNeg then none else some (.ref σ.2.1 :: r, (ri_grid σ.1 σ.2.1 n.toNatClampNeg m.toNatClampNeg, σ.2.1 + 1 + n.toNatClampNeg, σ.2.2 + n.toNatClampNeg + n.toNatClampNeg * m.toNatClampNeg))
      | _ => none
    | false => none
  | .arraylength => match st with
    | .ref a :: r => match σ.1 a with
      | some ea => match ri_ai ea with
        | some (n, _) => some (.int (nI n) :: r, σ)
        | none => none
      | none => none
    | _ => none
  | .newarray t => match st with
    | .int n :: r => if n < 0 ∨ 67108864 < n.toNatClampNeg then none else match t with
      | .int => some (.ref σ.2.1 :: r, (ri_up σ.1 σ.2.1 (.inl (.int, n.toNatClampNeg, .inl fun _ => 0)), σ.2.1 + 1, σ.2.2 + n.toNatClampNeg))
      | .boolean => some (.ref σ.2.1 :: r, (ri_up σ.1 σ.2.1 (.inl (.boolean, n.toNatClampNeg, .inl fun _ => 0)), σ.2.1 + 1, σ.2.2 + n.toNatClampNeg))
      | .long => some (.ref σ.2.1 :: r, (ri_up σ.1 σ.2.1 (.inl (.long, n.toNatClampNeg, .inr (.inl fun _ => 0))), σ.2.1 + 1, σ.2.2 + n.toNatClampNeg))
      | _ => none
    | _ => none
  | .new k => match rt_n M.1 k with
    | some (cj, fs) => some (.ref σ.2.1 :: st, (ri_up σ.1 σ.2.1 (.inr (cj, fs)), σ.2.1 + 1, σ.2.2 + fs.length))
    | none => none
  | _ => none
/-- a return -/
def ri_rt (M : ri_M) (i : Instr) (st : List Value) : Option (Option Value) := match i with
  | .ireturn => match st with
    | [.int v] => match M.2.2.2.2.1 with
      | some .int => some (some (.int v))
      | some .boolean => if v = 0 ∨ v = 1 then some (some (.int v)) else none
      | _ => none
    | _ => none
  | .lreturn => match st with
    | [.long v] => match M.2.2.2.2.1 with
      | some .long => some (some (.long v))
      | _ => none
    | _ => none
  | .areturn => match st with
    | [.ref v] => match M.2.2.2.2.1 with
      | some (.array _) => some (some (.ref v))
      | some (.object _) => some (some (.ref v))
      | _ => none
    | _ => none
  | .return_ => match st with
    | [] => match M.2.2.2.2.1 with
      | none => some none
      | some _ => none
    | _ => none
  | _ => none
/-- a call: the callee, its arguments, what stays on the stack. Kinds: 0 virtual, 1 static, 2 constructor, 3 .. 5 the same of a nest mate's private ones -/
def ri_cl (M : ri_M) (i : Instr) (st : List Value) (σ : ri_S) : Option (ri_M × List Value × List Value) := match i with
  | .invokevirtual k => match rt_c M.1 k with
    | some (0, M', n) => match st.drop n with
      | .ref b :: r => match σ.1 b with
        | some (.inr (ck, _)) => if ck = M'.1 ∧ (st.take n).length = n ∧ (r.map fun v => v.category).sum ≤ 8 then some (M', .ref b :: (st.take n).reverse, r) else none
        | _ => none
      | _ => none
    | _ => none
  | .invokestatic k => match rt_c M.1 k with
    | some (1, M', n) => if (st.take n).length = n ∧ ((st.drop n).map fun v => v.category).sum ≤ 8 then some (M', (st.take n).reverse, st.drop n) else none
    | some (4, M', n) => if (st.take n).length = n ∧ ((st.drop n).map fun v => v.category).sum ≤ 8 then some (M', (st.take n).reverse, st.drop n) else none
    | _ => none
  | .invokespecial k => match rt_c M.1 k with
    | some (2, M', n) => match st.drop n with
      | .ref b :: r => if (st.take n).length = n ∧ (r.map fun v => v.category).sum ≤ 8 then some (M', .ref b :: (st.take n).reverse, r) else none
      | _ => none
    | some (5, M', n) => match st.drop n with
      | .ref b :: r => if (st.take n).length = n ∧ (r.map fun v => v.category).sum ≤ 8 then some (M', .ref b :: (st.take n).reverse, r) else none
      | _ => none
    | _ => none
  | _ => none
/-- a call that is done at once: Object's constructor, Math.max, Math.min, System.arraycopy of ints -/
def ri_lf (M : ri_M) (i : Instr) (st : List Value) (σ : ri_S) : Option (List Value × ri_S) := match i with
  | .invokespecial k => match rt_o M.1 k with
    | 1 => match st with
      | .ref _ :: r => if (r.map fun v => v.category).sum ≤ 8 then some (r, σ) else none
      | _ => none
    | _ => none
  | .invokestatic k => match rt_o M.1 k with
    | 2 => match st with
      | .int y :: .int x :: r => if (r.map fun v => v.category).sum ≤ 8 then some (.int (if x < y then y else x) :: r, σ) else none
      | _ => none
    | 3 => match st with
      | .int y :: .int x :: r => if (r.map fun v => v.category).sum ≤ 8 then some (.int (if y < x then y else x) :: r, σ) else none
      | _ => none
    | 4 => match st with
      | .int n :: .int dp :: .ref a :: .int sp :: .ref a0 :: r => match σ.1 a0 with
        | some (.inl (.int, n0, .inl f)) => match σ.1 a with
          | some (.inl (.int, n1, .inl g)) => if (¬ sp < 0 ∧ ¬ dp < 0 ∧ ¬ n < 0) ∧ sp.toNatClampNeg + n.toNatClampNeg ≤ n0 ∧ dp.toNatClampNeg + n.toNatClampNeg ≤ n1 ∧ (r.map fun v => v.category).sum ≤ 8 then some (r, (ri_up σ.1 a (.inl (.int, n1, .inl (va_cpy f g sp.toNatClampNeg dp.toNatClampNeg n.toNatClampNeg))), σ.2)) else none
          | _ => none
        | _ => none
      | _ => none
    | _ => none
  | _ => none
def ri_run : Nat → Nat → ri_M → ri_F → ri_S → Option (Option Value × ri_S)
  | 0, _, _, _, _ => none
  | n + 1, d, M, F, σ => match ri_find F.1 M.2.2.2.2.2 with
    | none => none
    | some x => match ri_rt M x.1 F.2.2 with
      | some v => some (v, σ)
      | none => match ri_cl M x.1 F.2.2 σ with
        | some (M', as, r) => match d, Nat.ble (ri_ent as).length M'.2.2.2.1 with
          | d' + 1, true => match ri_run n d' M' (0, ri_loc M'.2.2.2.1 as, []) σ with
            | none => none
            | some (v, σ') => ri_run n (d' + 1) M (x.2.1, F.2.1, v.toList ++ r) σ'
          | _, _ => none
        | none => match ri_lf M x.1 F.2.2 σ with
          | some (st', σ') => match d with
            | 0 => none
            | d' + 1 => ri_run n (d' + 1) M (x.2.1, F.2.1, st') σ'
          | none => match ri_px M.1 x F.2.1 F.2.2 with
            | some F' => ri_run n d M F' σ
            | none => match ri_hx M x.1 F.2.2 σ with
              | some (st', σ') => ri_run n d M (x.2.1, F.2.1, st') σ'
              | none => none
end
section
/-! The small machine's locals against the machine's. -/
theorem ri_dl {b : ByteArray} {pc n : Nat} {i : Instr} (h : decode b pc = .ok (i, pc + n - pc)) : decode b pc = .ok (i, n) := by
  rw [Nat.add_sub_cancel_left] at h
  exact h
theorem ri_get_set (L : List (Option Value)) (i j : Nat) (x : Option Value) : ri_get (L.set i x) j = if i = j then (if i < L.length then x else none) else ri_get L j := by
  unfold ri_get
  rw [List.getElem?_set]
  by_cases h : i = j
  · by_cases h2 : i < L.length
    · rw [if_pos h, if_pos h, if_pos h2, if_pos h2]
    · rw [if_pos h, if_pos h, if_neg h2, if_neg h2]
  · rw [if_neg h, if_neg h]
theorem ri_get_lt {L : List (Option Value)} {i : Nat} {v : Value} (h : ri_get L i = some v) : i < L.length := by
  unfold ri_get at h
  split at h
  · rename_i x hx
    exact (List.getElem?_eq_some_iff.mp hx).1
  · cases h
def ri_en (L : List (Option Value)) : List (Nat × Value) := (List.range L.length).filterMap fun i => (ri_get L i).map fun v => (i, v)
theorem ri_en_mem {L : List (Option Value)} {q : Nat × Value} : q ∈ ri_en L ↔ ri_get L q.1 = some q.2 := by
  unfold ri_en
  rw [List.mem_filterMap]
  constructor
  · rintro ⟨i, -, h⟩
    cases hg : ri_get L i with
    | none => rw [hg] at h; cases h
    | some v => rw [hg] at h; cases h; exact hg
  · intro h
    exact ⟨q.1, List.mem_range.mpr (ri_get_lt h), by rw [h]; rfl⟩
def ri_H (ls : Array Slot) (L : List (Option Value)) : Prop := lv_has ls L.length (ri_en L)
theorem ri_H.at {ls : Array Slot} {L : List (Option Value)} {i : Nat} {v : Value} (h : ri_H ls L) (hv : ri_get L i = some v) : ls[i]? = some (.val v) := h.2.2 (i, v) (ri_en_mem.mpr hv)
theorem ri_H.of {ls : Array Slot} {L : List (Option Value)} (h1 : ls.size = L.length) (h2 : lv_wf ls) (h3 : ∀ i v, ri_get L i = some v → ls[i]? = some (.val v)) : ri_H ls L := ⟨h1, h2, fun q hq => h3 q.1 q.2 (ri_en_mem.mp hq)⟩
theorem ri_put_len (L : List (Option Value)) (i : Nat) (v : Value) : (ri_put L i v).length = L.length := by
  unfold ri_put
  cases i with
  | zero => cases hb : (v.category == 2) <;> simp
  | succ j => cases hb : (v.category == 2) <;> cases hc : ri_two L j <;> simp [hc]
theorem ri_two_of {L : List (Option Value)} {j : Nat} {w : Value} (h : ri_get L j = some w) : ri_two L j = (w.category == 2) := by
  unfold ri_two
  rw [h]
theorem ri_put1_get {L : List (Option Value)} {i j : Nat} {v w : Value} (hc : v.category = 1) (h : ri_get (ri_put L i v) j = some w) : (j = i ∧ w = v) ∨ (j ≠ i ∧ ri_get L j = some w ∧ ¬ (j + 1 = i ∧ w.category = 2)) := by
  have hb : (v.category == 2) = false := by rw [hc]; rfl
  unfold ri_put at h
  cases i with
  | zero =>
    simp only [hb, cond_false] at h
    rw [ri_get_set] at h
    by_cases e : 0 = j
    · rw [if_pos e] at h
      split at h
      · cases h; exact Or.inl ⟨e.symm, rfl⟩
      · cases h
    · rw [if_neg e] at h
      exact Or.inr ⟨fun q => e q.symm, h, fun q => absurd q.1 (Nat.succ_ne_zero j)⟩
  | succ i =>
    simp only [hb, cond_false] at h
    rw [ri_get_set] at h
    by_cases e : i + 1 = j
    · rw [if_pos e] at h
      split at h
      · cases h; exact Or.inl ⟨e.symm, rfl⟩
      · cases h
    · rw [if_neg e] at h
      refine Or.inr ⟨fun q => e q.symm, ?_⟩
      cases ht : ri_two L i with
      | true =>
        rw [ht, cond_true, ri_get_set] at h
        by_cases e2 : i = j
        · rw [if_pos e2] at h
          split at h <;> cases h
        · rw [if_neg e2] at h
          exact ⟨h, fun q => e2 (Nat.succ.inj q.1).symm⟩
      | false =>
        rw [ht, cond_false] at h
        refine ⟨h, fun q => ?_⟩
        have e3 : j = i := Nat.succ.inj q.1
        rw [e3] at h
        rw [ri_two_of h, q.2] at ht
        cases ht
theorem ri_put2_get {L : List (Option Value)} {i j : Nat} {v w : Value} (hc : v.category = 2) (h : ri_get (ri_put L i v) j = some w) : (j = i ∧ w = v) ∨ (j ≠ i ∧ j ≠ i + 1 ∧ ri_get L j = some w ∧ ¬ (j + 1 = i ∧ w.category = 2)) := by
  have hb : (v.category == 2) = true := by rw [hc]; rfl
  unfold ri_put at h
  cases i with
  | zero =>
    simp only [hb, cond_true] at h
    rw [ri_get_set] at h
    by_cases e1 : 1 = j
    · rw [if_pos e1] at h
      split at h <;> cases h
    · rw [if_neg e1, ri_get_set] at h
      by_cases e : 0 = j
      · rw [if_pos e] at h
        split at h
        · cases h; exact Or.inl ⟨e.symm, rfl⟩
        · cases h
      · rw [if_neg e] at h
        exact Or.inr ⟨fun q => e q.symm, fun q => e1 q.symm, h, fun q => absurd q.1 (Nat.succ_ne_zero j)⟩
  | succ i =>
    simp only [hb, cond_true] at h
    rw [ri_get_set] at h
    by_cases e1 : i + 2 = j
    · rw [if_pos e1] at h
      split at h <;> cases h
    · rw [if_neg e1, ri_get_set] at h
      by_cases e : i + 1 = j
      · rw [if_pos e] at h
        split at h
        · cases h; exact Or.inl ⟨e.symm, rfl⟩
        · cases h
      · rw [if_neg e] at h
        refine Or.inr ⟨fun q => e q.symm, fun q => e1 q.symm, ?_⟩
        cases ht : ri_two L i with
        | true =>
          rw [ht, cond_true, ri_get_set] at h
          by_cases e2 : i = j
          · rw [if_pos e2] at h
            split at h <;> cases h
          · rw [if_neg e2] at h
            exact ⟨h, fun q => e2 (Nat.succ.inj q.1).symm⟩
        | false =>
          rw [ht, cond_false] at h
          refine ⟨h, fun q => ?_⟩
          have e3 : j = i := Nat.succ.inj q.1
          rw [e3] at h
          rw [ri_two_of h, q.2] at ht
          cases ht
theorem ri_H.put1 {ls : Array Slot} {L : List (Option Value)} {i : Nat} {v : Value} (hc : v.category = 1) (h : lv_has ls L.length ((i, v) :: (ri_en L).filter (fun q => !(q.1 == i) && !(q.1 + 1 == i && q.2.category == 2)))) : ri_H ls (ri_put L i v) := by
  refine ri_H.of (by rw [ri_put_len]; exact h.1) h.2.1 fun j w hw => ?_
  rcases ri_put1_get hc hw with ⟨rfl, rfl⟩ | ⟨h1, h2, h3⟩
  · exact h.2.2 _ List.mem_cons_self
  · refine h.2.2 (j, w) (List.mem_cons_of_mem _ (List.mem_filter.mpr ⟨ri_en_mem.mpr h2, ?_⟩))
    simp only [Bool.and_eq_true, Bool.not_eq_true', beq_eq_false_iff_ne, Bool.and_eq_false_imp, beq_iff_eq]
    exact ⟨h1, fun q1 q2 => h3 ⟨q1, q2⟩⟩
theorem ri_H.put2 {ls : Array Slot} {L : List (Option Value)} {i : Nat} {v : Value} (hc : v.category = 2) (h : lv_has ls L.length ((i, v) :: (ri_en L).filter (fun q => !(q.1 == i) && (!(q.1 == i + 1) && !(q.1 + 1 == i && q.2.category == 2))))) : ri_H ls (ri_put L i v) := by
  refine ri_H.of (by rw [ri_put_len]; exact h.1) h.2.1 fun j w hw => ?_
  rcases ri_put2_get hc hw with ⟨rfl, rfl⟩ | ⟨h1, h4, h2, h3⟩
  · exact h.2.2 _ List.mem_cons_self
  · refine h.2.2 (j, w) (List.mem_cons_of_mem _ (List.mem_filter.mpr ⟨ri_en_mem.mpr h2, ?_⟩))
    simp only [Bool.and_eq_true, Bool.not_eq_true', beq_eq_false_iff_ne, Bool.and_eq_false_imp, beq_iff_eq]
    exact ⟨h1, h4, fun q1 q2 => h3 ⟨q1, q2⟩⟩
/-- a method's entry -/
theorem ri_ent_len : ∀ vs : List Value, (ri_ent vs).length = (lg_sl vs).length
  | [] => rfl
  | v :: r => by
    have ih := ri_ent_len r
    unfold lg_sl at ih ⊢
    rw [List.flatMap_cons, List.length_append, ← ih]
    rw [show ri_ent (v :: r) = bif v.category == 2 then some v :: none :: ri_ent r else some v :: ri_ent r from rfl]
    rcases lv_cat v with h | h
    · rw [show (v.category == 2) = false by rw [h]; rfl, cond_false, if_neg (by rw [h]; decide)]
      simp only [List.length_cons, List.length_nil]; omega
    · rw [show (v.category == 2) = true by rw [h]; rfl, cond_true, if_pos h]
      simp only [List.length_cons, List.length_nil]; omega
theorem ri_ent_get : ∀ (vs : List Value) (n i j : Nat) (w : Value), ri_get (ri_ent vs ++ List.replicate n none) j = some w → (i + j, w) ∈ lv_args i vs
  | [], n, i, j, w, h => by
    exfalso
    unfold ri_get ri_ent at h
    rw [List.nil_append] at h
    split at h
    · rename_i x hx
      have := List.mem_of_getElem? hx
      rw [List.mem_replicate] at this
      rw [this.2] at h
      cases h
    · cases h
  | v :: r, n, i, j, w, h => by
    unfold ri_ent at h
    unfold lv_args
    rcases lv_cat v with hc | hc
    · rw [show (v.category == 2) = false by rw [hc]; rfl, cond_false] at h
      rw [if_neg (by rw [hc]; decide)]
      cases j with
      | zero => cases h; exact List.mem_cons_self
      | succ j =>
        have := ri_ent_get r n (i + 1) j w h
        rw [show i + (j + 1) = i + 1 + j by omega]
        exact List.mem_cons_of_mem _ this
    · rw [show (v.category == 2) = true by rw [hc]; rfl, cond_true] at h
      rw [if_pos hc]
      match j, h with
      | 0, h => cases h; exact List.mem_cons_self
      | 1, h => cases h
      | j + 2, h =>
        have := ri_ent_get r n (i + 2) j w h
        rw [show i + (j + 2) = i + 2 + j by omega]
        exact List.mem_cons_of_mem _ this
theorem ri_entry (vs : List Value) {n : Nat} (h : (ri_ent vs).length ≤ n) : ri_H ((lg_sl vs ++ List.replicate (n - (lg_sl vs).length) Slot.unset).toArray) (ri_loc n vs) := by
  have h0 := lv_entry vs (n := n) (by rw [← ri_ent_len]; exact h)
  have hn : (ri_loc n vs).length = n := by
    unfold ri_loc
    rw [List.length_append, List.length_replicate]
    omega
  refine ri_H.of (by rw [hn]; exact h0.1) h0.2.1 fun i v hv => ?_
  have := ri_ent_get vs _ 0 i v hv
  rw [Nat.zero_add] at this
  exact h0.2.2 _ this
end
section
/-! A step without cells is the machine's (written by a program: gen06.py). -/
section RIP
variable {p : Program} {l : Launch} {e : Env} {R : Room} {s : State} {m : MethodId} {args : Array Value} {below : List Frame} {meth : Method} {c : Code} {H : Heap} {locs : List Loc} {cells slots : Nat} {Q : State → Prop}
set_option maxHeartbeats 4000000 in
set_option maxRecDepth 100000 in
theorem ri_pxW {bb : ByteArray} {own : String} {ci : Nat} (hx : p.tables.exec = Jvm.exec) (hb : c.code = bb) (hown : s.vm.findClass own = some m.cls) (hki : ∀ k v, rt_i ci k = some v → (Cond.constant own k v).before args s = true) (hkl : ∀ k v, rt_l ci k = some v → (Cond.constantLong own k v).before args s = true)
    {pc : Nat} {x : Instr × Nat × Nat × Int32} (hc : ri_ck bb (pc, x)) {L : List (Option Value)} {st : List Value} {F' : ri_F} (h : ri_px ci x L st = some F') {ls : Array Slot} (hl : ri_H ls L)
    (kk : ∀ ls' : Array Slot, ri_H ls' F'.2.1 → W p l e R s m args below meth c H locs cells slots Q (F0 m F'.1 ls' F'.2.2)) : W p l e R s m args below meth c H locs cells slots Q (F0 m pc ls st) := by
  obtain ⟨i, np, tg, kv⟩ := x
  obtain ⟨hd, hs⟩ := hc
  dsimp only at hd
  cases i
  case iconst k =>
    obtain ⟨h1, h2⟩ : np = pc + 1 ∧ _ = kv := by simpa [ri_sp] using hs
    subst h1
    cases h
    exact lv_iconst hx hb (ri_dl hd) h2 (kk ls hl)
  case bipush k =>
    obtain ⟨h1, h2⟩ : np = pc + 2 ∧ _ = kv := by simpa [ri_sp] using hs
    subst h1
    cases h
    exact lv_bipush hx hb (ri_dl hd) h2 (kk ls hl)
  case sipush k =>
    obtain ⟨h1, h2⟩ : np = pc + 3 ∧ _ = kv := by simpa [ri_sp] using hs
    subst h1
    cases h
    exact lv_sipush hx hb (ri_dl hd) h2 (kk ls hl)
  case lconst k =>
    obtain rfl : np = pc + 1 := by simpa [ri_sp] using hs
    cases h
    exact lv_lconst hx hb (ri_dl hd) rfl (kk ls hl)
  case ldc k =>
    obtain rfl : np = pc + 2 := by simpa [ri_sp] using hs
    simp only [ri_px] at h
    split at h
    · rename_i v hv
      cases h
      exact lv_ldc hx hb hown (hki k v hv) (ri_dl hd) (kk ls hl)
    · cases h
  case ldc2_w k =>
    obtain rfl : np = pc + 3 := by simpa [ri_sp] using hs
    simp only [ri_px] at h
    split at h
    · rename_i v hv
      cases h
      exact lv_ldc2 hx hb hown (hkl k v hv) (ri_dl hd) (kk ls hl)
    · cases h
  case aconst_null =>
    obtain rfl : np = pc + 1 := by simpa [ri_sp] using hs
    cases h
    exact lv_null hx hb (ri_dl hd) (kk ls hl)
  case iload k =>
    obtain rfl : np = pc + 2 := by simpa [ri_sp] using hs
    simp only [ri_px] at h
    split at h
    · rename_i v hv
      cases h
      exact lv_iload hx hb (ri_dl hd) (hl.at hv) (kk ls hl)
    · cases h
  case iload_n k =>
    obtain rfl : np = pc + 1 := by simpa [ri_sp] using hs
    simp only [ri_px] at h
    split at h
    · rename_i v hv
      cases h
      exact lv_iload_n hx hb (ri_dl hd) rfl (hl.at hv) (kk ls hl)
    · cases h
  case lload k =>
    obtain rfl : np = pc + 2 := by simpa [ri_sp] using hs
    simp only [ri_px] at h
    split at h
    · rename_i v hv
      cases h
      exact lv_lload hx hb (ri_dl hd) (hl.at hv) (kk ls hl)
    · cases h
  case lload_n k =>
    obtain rfl : np = pc + 1 := by simpa [ri_sp] using hs
    simp only [ri_px] at h
    split at h
    · rename_i v hv
      cases h
      exact lv_lload_n hx hb (ri_dl hd) rfl (hl.at hv) (kk ls hl)
    · cases h
  case aload k =>
    obtain rfl : np = pc + 2 := by simpa [ri_sp] using hs
    simp only [ri_px] at h
    split at h
    · rename_i v hv
      cases h
      exact lv_aload hx hb (ri_dl hd) (hl.at hv) (kk ls hl)
    · cases h
  case aload_n k =>
    obtain rfl : np = pc + 1 := by simpa [ri_sp] using hs
    simp only [ri_px] at h
    split at h
    · rename_i v hv
      cases h
      exact lv_aload_n hx hb (ri_dl hd) rfl (hl.at hv) (kk ls hl)
    · cases h
  case istore k =>
    obtain rfl : np = pc + 2 := by simpa [ri_sp] using hs
    simp only [ri_px] at h
    split at h
    · rename_i v r hn
      cases h
      refine lv_istore hx hb (ri_dl hd) hl (Nat.le_of_ble_eq_true hn) rfl (fun ls' hl' => kk ls' (ri_H.put1 rfl hl'))
    · cases h
  case istore_n k =>
    obtain rfl : np = pc + 1 := by simpa [ri_sp] using hs
    simp only [ri_px] at h
    split at h
    · rename_i v r hn
      cases h
      refine lv_istore_n hx hb (ri_dl hd) rfl hl (Nat.le_of_ble_eq_true hn) rfl (fun ls' hl' => kk ls' (ri_H.put1 rfl hl'))
    · cases h
  case lstore k =>
    obtain rfl : np = pc + 2 := by simpa [ri_sp] using hs
    simp only [ri_px] at h
    split at h
    · rename_i v r hn
      cases h
      refine lv_lstore hx hb (ri_dl hd) hl (Nat.le_of_ble_eq_true hn) rfl (fun ls' hl' => kk ls' (ri_H.put2 rfl hl'))
    · cases h
  case lstore_n k =>
    obtain rfl : np = pc + 1 := by simpa [ri_sp] using hs
    simp only [ri_px] at h
    split at h
    · rename_i v r hn
      cases h
      refine lv_lstore_n hx hb (ri_dl hd) rfl hl (Nat.le_of_ble_eq_true hn) rfl (fun ls' hl' => kk ls' (ri_H.put2 rfl hl'))
    · cases h
  case astore k =>
    obtain rfl : np = pc + 2 := by simpa [ri_sp] using hs
    simp only [ri_px] at h
    split at h
    · rename_i v r hn
      cases h
      refine lv_astore hx hb (ri_dl hd) hl (Nat.le_of_ble_eq_true hn) rfl (fun ls' hl' => kk ls' (ri_H.put1 rfl hl'))
    · cases h
  case astore_n k =>
    obtain rfl : np = pc + 1 := by simpa [ri_sp] using hs
    simp only [ri_px] at h
    split at h
    · rename_i v r hn
      cases h
      refine lv_astore_n hx hb (ri_dl hd) rfl hl (Nat.le_of_ble_eq_true hn) rfl (fun ls' hl' => kk ls' (ri_H.put1 rfl hl'))
    · cases h
  case iinc k n =>
    obtain ⟨h1, h2⟩ : np = pc + 3 ∧ Int32.ofInt n = kv := by simpa [ri_sp] using hs
    subst h1
    simp only [ri_px] at h
    split at h
    · rename_i v hv hn
      cases h
      obtain ⟨q, hq⟩ := List.getElem?_of_mem (ri_en_mem.mpr hv : (k, Value.int v) ∈ ri_en L)
      refine lv_iinc hx hb (ri_dl hd) hl hq (by rw [h2]) (Nat.le_of_ble_eq_true hn) rfl (fun ls' hl' => kk ls' (ri_H.put1 rfl hl'))
    · cases h
  case iadd =>
    obtain rfl : np = pc + 1 := by simpa [ri_sp] using hs
    simp only [ri_px] at h
    split at h
    · cases h
      exact lv_iadd hx hb (ri_dl hd) (kk ls hl)
    · cases h
  case isub =>
    obtain rfl : np = pc + 1 := by simpa [ri_sp] using hs
    simp only [ri_px] at h
    split at h
    · cases h
      exact lv_isub hx hb (ri_dl hd) (kk ls hl)
    · cases h
  case imul =>
    obtain rfl : np = pc + 1 := by simpa [ri_sp] using hs
    simp only [ri_px] at h
    split at h
    · cases h
      exact lv_imul hx hb (ri_dl hd) (kk ls hl)
    · cases h
  case iand =>
    obtain rfl : np = pc + 1 := by simpa [ri_sp] using hs
    simp only [ri_px] at h
    split at h
    · cases h
      exact lv_iand hx hb (ri_dl hd) (kk ls hl)
    · cases h
  case ior =>
    obtain rfl : np = pc + 1 := by simpa [ri_sp] using hs
    simp only [ri_px] at h
    split at h
    · cases h
      exact lv_ior hx hb (ri_dl hd) (kk ls hl)
    · cases h
  case ishl =>
    obtain rfl : np = pc + 1 := by simpa [ri_sp] using hs
    simp only [ri_px] at h
    split at h
    · cases h
      exact lv_ishl hx hb (ri_dl hd) (kk ls hl)
    · cases h
  case ishr =>
    obtain rfl : np = pc + 1 := by simpa [ri_sp] using hs
    simp only [ri_px] at h
    split at h
    · cases h
      exact lv_ishr hx hb (ri_dl hd) (kk ls hl)
    · cases h
  case land =>
    obtain rfl : np = pc + 1 := by simpa [ri_sp] using hs
    simp only [ri_px] at h
    split at h
    · cases h
      exact lv_land hx hb (ri_dl hd) (kk ls hl)
    · cases h
  case lor =>
    obtain rfl : np = pc + 1 := by simpa [ri_sp] using hs
    simp only [ri_px] at h
    split at h
    · cases h
      exact lv_lor hx hb (ri_dl hd) (kk ls hl)
    · cases h
  case iushr =>
    obtain rfl : np = pc + 1 := by simpa [ri_sp] using hs
    simp only [ri_px] at h
    split at h
    · cases h
      exact lv_iushr hx hb (ri_dl hd) rfl (kk ls hl)
    · cases h
  case lshl =>
    obtain rfl : np = pc + 1 := by simpa [ri_sp] using hs
    simp only [ri_px] at h
    split at h
    · cases h
      exact lv_lshl hx hb (ri_dl hd) rfl (kk ls hl)
    · cases h
  case lushr =>
    obtain rfl : np = pc + 1 := by simpa [ri_sp] using hs
    simp only [ri_px] at h
    split at h
    · cases h
      exact lv_lushr hx hb (ri_dl hd) rfl (kk ls hl)
    · cases h
  case i2l =>
    obtain rfl : np = pc + 1 := by simpa [ri_sp] using hs
    simp only [ri_px] at h
    split at h
    · cases h
      exact lv_i2l hx hb (ri_dl hd) rfl (kk ls hl)
    · cases h
  case l2i =>
    obtain rfl : np = pc + 1 := by simpa [ri_sp] using hs
    simp only [ri_px] at h
    split at h
    · cases h
      exact lv_l2i hx hb (ri_dl hd) rfl (kk ls hl)
    · cases h
  case lcmp =>
    obtain rfl : np = pc + 1 := by simpa [ri_sp] using hs
    simp only [ri_px] at h
    split at h
    · cases h
      exact W.lcmp hx hb (ri_dl hd) (kk ls hl)
    · cases h
  case dup =>
    obtain rfl : np = pc + 1 := by simpa [ri_sp] using hs
    simp only [ri_px] at h
    split at h
    · split at h
      · rename_i q
        cases h
        exact lv_dup hx hb (ri_dl hd) q (kk ls hl)
      · cases h
    · cases h
  case pop =>
    obtain rfl : np = pc + 1 := by simpa [ri_sp] using hs
    simp only [ri_px] at h
    split at h
    · split at h
      · rename_i q
        cases h
        exact lv_pop hx hb (ri_dl hd) q (kk ls hl)
      · cases h
    · cases h
  case dup_x1 =>
    obtain rfl : np = pc + 1 := by simpa [ri_sp] using hs
    simp only [ri_px] at h
    split at h
    · split at h
      · rename_i q
        cases h
        exact lv_dup_x1 hx hb (ri_dl hd) q.1 q.2 (kk ls hl)
      · cases h
    · cases h
  case dup_x2 =>
    obtain rfl : np = pc + 1 := by simpa [ri_sp] using hs
    simp only [ri_px] at h
    split at h
    · split at h
      · rename_i q
        cases h
        exact lv_dup_x2 hx hb (ri_dl hd) q.1 q.2.1 q.2.2 (kk ls hl)
      · cases h
    · cases h
  case dup2 =>
    obtain rfl : np = pc + 1 := by simpa [ri_sp] using hs
    simp only [ri_px] at h
    split at h
    · split at h
      · rename_i q
        cases h
        exact lv_dup2_2 hx hb (ri_dl hd) q (kk ls hl)
      · split at h
        · split at h
          · rename_i q
            cases h
            exact lv_dup2_11 hx hb (ri_dl hd) q.1 q.2 (kk ls hl)
          · cases h
        · cases h
    · cases h
  case ifCond cd off =>
    obtain ⟨h1, ht⟩ : np = pc + 3 ∧ (pc : Int) + off = (tg : Int) := by simpa [ri_sp] using hs
    subst h1
    simp only [ri_px] at h
    split at h
    · cases cd
      · cases h
        exact lv_if_eq hx hb (ri_dl hd) ht (fun q => by have k0 := kk ls hl; dsimp only at k0; rw [if_pos q] at k0; exact k0) (fun q => by have k0 := kk ls hl; dsimp only at k0; rw [if_neg q] at k0; exact k0)
      · cases h
        exact lv_if_ne hx hb (ri_dl hd) ht (fun q => by have k0 := kk ls hl; dsimp only at k0; rw [if_neg q] at k0; exact k0) (fun q => by have k0 := kk ls hl; dsimp only at k0; rw [if_pos q] at k0; exact k0)
      · cases h
        exact lv_if_lt hx hb (ri_dl hd) ht (fun q => by have k0 := kk ls hl; dsimp only at k0; rw [if_pos q] at k0; exact k0) (fun q => by have k0 := kk ls hl; dsimp only at k0; rw [if_neg q] at k0; exact k0)
      · cases h
        exact lv_if_ge hx hb (ri_dl hd) ht (fun q => by have k0 := kk ls hl; dsimp only at k0; rw [if_pos q] at k0; exact k0) (fun q => by have k0 := kk ls hl; dsimp only at k0; rw [if_neg q] at k0; exact k0)
      · cases h
        exact lv_if_gt hx hb (ri_dl hd) ht (fun q => by have k0 := kk ls hl; dsimp only at k0; rw [if_pos q] at k0; exact k0) (fun q => by have k0 := kk ls hl; dsimp only at k0; rw [if_neg q] at k0; exact k0)
      · cases h
        exact lv_if_le hx hb (ri_dl hd) ht (fun q => by have k0 := kk ls hl; dsimp only at k0; rw [if_pos q] at k0; exact k0) (fun q => by have k0 := kk ls hl; dsimp only at k0; rw [if_neg q] at k0; exact k0)
    · cases h
  case if_icmp cd off =>
    obtain ⟨h1, ht⟩ : np = pc + 3 ∧ (pc : Int) + off = (tg : Int) := by simpa [ri_sp] using hs
    subst h1
    simp only [ri_px] at h
    split at h
    · cases cd
      · cases h
        exact lv_icmp_eq hx hb (ri_dl hd) ht (fun q => by have k0 := kk ls hl; dsimp only at k0; rw [if_pos q] at k0; exact k0) (fun q => by have k0 := kk ls hl; dsimp only at k0; rw [if_neg q] at k0; exact k0)
      · cases h
        exact lv_icmp_ne hx hb (ri_dl hd) ht (fun q => by have k0 := kk ls hl; dsimp only at k0; rw [if_neg q] at k0; exact k0) (fun q => by have k0 := kk ls hl; dsimp only at k0; rw [if_pos q] at k0; exact k0)
      · cases h
        exact lv_icmp_lt hx hb (ri_dl hd) ht (fun q => by have k0 := kk ls hl; dsimp only at k0; rw [if_pos q] at k0; exact k0) (fun q => by have k0 := kk ls hl; dsimp only at k0; rw [if_neg q] at k0; exact k0)
      · cases h
        exact lv_icmp_ge hx hb (ri_dl hd) ht (fun q => by have k0 := kk ls hl; dsimp only at k0; rw [if_pos q] at k0; exact k0) (fun q => by have k0 := kk ls hl; dsimp only at k0; rw [if_neg q] at k0; exact k0)
      · cases h
        exact lv_icmp_gt hx hb (ri_dl hd) ht (fun q => by have k0 := kk ls hl; dsimp only at k0; rw [if_pos q] at k0; exact k0) (fun q => by have k0 := kk ls hl; dsimp only at k0; rw [if_neg q] at k0; exact k0)
      · cases h
        exact lv_icmp_le hx hb (ri_dl hd) ht (fun q => by have k0 := kk ls hl; dsimp only at k0; rw [if_pos q] at k0; exact k0) (fun q => by have k0 := kk ls hl; dsimp only at k0; rw [if_neg q] at k0; exact k0)
    · cases h
  case goto off =>
    obtain ⟨h1, ht⟩ : np = pc + 3 ∧ (pc : Int) + off = (tg : Int) := by simpa [ri_sp] using hs
    subst h1
    cases h
    exact lv_goto hx hb (ri_dl hd) ht (kk ls hl)
  case tableswitch df lo hi offs =>
    obtain ⟨ht, hk⟩ : (pc : Int) + df = (tg : Int) ∧ kv.toInt = (pc : Int) := by simpa [ri_sp] using hs
    simp only [ri_px] at h
    split at h
    · split at h
      · rename_i q
        cases h
        exact lv_tableOut hx hb hd q ht (kk ls hl)
      · rename_i q
        split at h
        · rename_i off ho
          split at h
          · rename_i h0
            cases h
            refine lv_tableIn hx hb hd (fun z => q (Or.inl z)) (fun z => q (Or.inr z)) ho ?_ (kk ls hl)
            rw [hk] at h0 ⊢
            exact (Int.toNat_of_nonneg h0).symm
          · cases h
        · cases h
    · cases h
  all_goals cases h
end RIP
theorem ri_px_len {ci : Nat} {x : Instr × Nat × Nat × Int32} {L : List (Option Value)} {st : List Value} {F' : ri_F} (h : ri_px ci x L st = some F') : F'.2.1.length = L.length := by
  unfold ri_px at h
  (repeat' split at h) <;> first | (cases h; done) | (cases h; rfl) | (cases h; exact ri_put_len _ _ _)
end
section
/-! The small machine's cells against the heap. rt_tbl: the words that every method has; rt_sd: those of nest mates, carried beside; vwCl: the classes; rt_ty: the arrays' component types. -/
def ri_ro (t : FieldType) (x : vp_A) : Option (Nat → Int32) := match t with
  | .object _ => match x.2 with
    | .inl f => some f
    | _ => none
  | _ => none
/-- a cell: the script (old, never written), an array, an object -/
def ri_at (D : va_G) (aC : FieldType → ClassId) (z0 : Nat) (s : State) (a : Nat) (e : ri_E) (H : Heap) : Prop := match e with
  | .inl (t, x) => match ri_ro t x with
    | some f => a < z0 ∧ va_X a x.1 f s H
    | none => z0 ≤ a ∧ H[a]? = some (vp_cell (aC t) x)
  | .inr o => z0 ≤ a ∧ va_at D vwCl (a, .inr o) H
def ri_R (D : va_G) (aC : FieldType → ClassId) (z0 : Nat) (s : State) (σ : ri_S) (H : Heap) : Prop := H.size = σ.2.1 ∧ z0 ≤ H.size ∧ ∀ (a : Nat) (e : ri_E), σ.1 a = some e → ri_at D aC z0 s a e H
/-- int[][] stands over int[] -/
def ri_G (U : State) : Prop := (Cond.arrayOver (.array .int)).before #[] U = true
theorem ri_G.spec {U : State} (h : ri_G U) : ∃ comp c k, U.vm.findClass (FieldType.array .int).toString = some comp ∧ (U.vm.classes.findIdx? fun (x : Class) => match x.kind with | .array component _ => component == comp | _ => false) = some c ∧ U.vm.classes[c]? = some k ∧ k.kind = .array comp (.array .int) ∧ U.vm.findClass ("[" ++ (FieldType.array .int).toString) = some c := by
  unfold ri_G Cond.before at h
  simp only [Cond.holds, Cond.value, beq_iff_eq] at h
  cases hc : U.vm.findClass (FieldType.array .int).toString with
  | none => simp [hc] at h
  | some comp =>
    simp only [hc, Option.bind_some, Option.bind_eq_some_iff, Option.map_eq_some_iff] at h
    obtain ⟨c, hi, k, hk, hb⟩ := h
    obtain ⟨hlt, hp, -⟩ := Array.findIdx?_eq_some_iff_getElem.mp hi
    have hkk : U.vm.classes[c] = k := (Array.getElem?_eq_some_iff.mp hk).2
    rw [hkk] at hp
    cases hkind : k.kind with
    | array component ty =>
      rw [hkind] at hb hp
      simp at hb hp
      exact ⟨comp, c, k, rfl, hi, hk, by rw [hkind, hp, hb.1], hb.2⟩
    | _ => rw [hkind] at hb; simp at hb
theorem ri_G.moved {u U : State} (hvm : u.vm.Alike U.vm) (h : ri_G u) : ri_G U := by
  obtain ⟨comp, c, k, h1, h2, h3, h4, h5⟩ := h.spec
  obtain ⟨k', hk', he⟩ := hvm.2.2 _ _ h3
  have hi : (U.vm.classes.findIdx? fun (x : Class) => match x.kind with | .array component _ => component == comp | _ => false) = some c := by
    have e1 := va_idx_bare U.vm comp
    have e2 := va_idx_bare u.vm comp
    have eb : u.vm.bare = U.vm.bare := by first | exact hvm.bare_eq | exact hvm.bare_eq.symm
    rw [← eb] at e1
    exact (e1.symm.trans e2).trans h2
  have hkind : k'.kind = .array comp (.array .int) := by rw [he]; exact h4
  have f1 : U.vm.findClass (FieldType.array .int).toString = some comp := by rw [hvm.findClass]; exact h1
  have f2 : U.vm.findClass ("[" ++ (FieldType.array .int).toString) = some c := by rw [hvm.findClass]; exact h5
  unfold ri_G Cond.before Cond.holds
  simp only [Cond.value]
  rw [f1, Option.bind_some]
  refine (congrArg (fun o : Option Nat => (o.bind (fun c => (U.vm.classes[c]?).map fun (k : Class) => match k.kind with | .array _ ty => decide (ty = FieldType.array .int) && decide (U.vm.findClass ("[" ++ (FieldType.array .int).toString) = some c) | _ => false) == some true)) hi).trans ?_
  simp [hk', hkind, f2]
def ri_K (D : va_G) (aC : FieldType → ClassId) (U : State) : Prop := va_K D vwCl (rt_ty.map fun t => (aC t, t)) U ∧ (∀ w ∈ rt_sd, va_Nw w U) ∧ ri_G U
theorem ri_at.kept {D : va_G} {aC : FieldType → ClassId} {z0 : Nat} {s : State} {a : Nat} {e : ri_E} {H H1 : Heap} (h : ri_at D aC z0 s a e H) (hq : H1[a]? = H[a]?) : ri_at D aC z0 s a e H1 := by
  unfold ri_at at h ⊢
  split at h
  · split at h
    · exact ⟨h.1, h.2.kept hq⟩
    · exact ⟨h.1, by rw [hq]; exact h.2⟩
  · exact ⟨h.1, h.2.kept hq⟩
theorem ri_at.lt {D : va_G} {aC : FieldType → ClassId} {z0 : Nat} {s : State} {a : Nat} {e : ri_E} {H : Heap} (h : ri_at D aC z0 s a e H) : a < H.size := by
  unfold ri_at at h
  split at h
  · split at h
    · obtain ⟨scr, h1, -⟩ := h.2
      exact (Array.getElem?_eq_some_iff.mp h1).1
    · exact (Array.getElem?_eq_some_iff.mp h.2).1
  · exact h.2.lt
theorem ri_at.moved {D : va_G} {aC : FieldType → ClassId} {z0 : Nat} {u U : State} {a : Nat} {e : ri_E} {H : Heap} (hvm : u.vm.Alike U.vm) (h : ri_at D aC z0 u a e H) : ri_at D aC z0 U a e H := by
  unfold ri_at at h ⊢
  split at h
  · split at h
    · exact ⟨h.1, va_X.moved hvm h.2⟩
    · exact h
  · exact h
theorem ri_R.moved {D : va_G} {aC : FieldType → ClassId} {z0 : Nat} {u U : State} {σ : ri_S} {H : Heap} (hvm : u.vm.Alike U.vm) (h : ri_R D aC z0 u σ H) : ri_R D aC z0 U σ H := ⟨h.1, h.2.1, fun a e q => (h.2.2 a e q).moved hvm⟩
theorem ri_R.set {D : va_G} {aC : FieldType → ClassId} {z0 : Nat} {s : State} {σ : ri_S} {H H1 : Heap} {a : Nat} {e : ri_E} (h : ri_R D aC z0 s σ H) (ha : ri_at D aC z0 s a e H1) (hz : H1.size = H.size) (oq : ∀ q : Nat, q ≠ a → H1[q]? = H[q]?) : ri_R D aC z0 s (ri_up σ.1 a e, σ.2) H1 := by
  refine ⟨by rw [hz]; exact h.1, by rw [hz]; exact h.2.1, fun q x hx => ?_⟩
  change ri_up σ.1 a e q = some x at hx
  unfold ri_up at hx
  by_cases hq : q = a
  · rw [if_pos hq] at hx
    cases hx
    rw [hq]
    exact ha
  · rw [if_neg hq] at hx
    exact (h.2.2 q x hx).kept (oq q hq)
theorem ri_R.new {D : va_G} {aC : FieldType → ClassId} {z0 : Nat} {s : State} {σ : ri_S} {H H1 : Heap} {e : ri_E} {n : Nat} (h : ri_R D aC z0 s σ H) (ha : ri_at D aC z0 s H.size e H1) (hz : H1.size = H.size + 1) (oq : ∀ q : Nat, q < H.size → H1[q]? = H[q]?) : ri_R D aC z0 s (ri_up σ.1 σ.2.1 e, σ.2.1 + 1, n) H1 := by
  refine ⟨by rw [hz, h.1], by rw [hz]; exact Nat.le_succ_of_le h.2.1, fun q x hx => ?_⟩
  change ri_up σ.1 σ.2.1 e q = some x at hx
  unfold ri_up at hx
  by_cases hq : q = σ.2.1
  · rw [if_pos hq] at hx
    cases hx
    rw [hq, ← h.1]
    exact ha
  · rw [if_neg hq] at hx
    exact (h.2.2 q x hx).kept (oq q (h.2.2 q x hx).lt)
theorem ri_S.new {A : Nat → Prop} {H0 H H1 : Heap} {locs : List Loc} (h : va_S A H0 H locs) (hz : H.size ≤ H1.size) (oq : ∀ q : Nat, q < H.size → H1[q]? = H[q]?) : va_S A H0 H1 locs := ⟨Nat.le_trans h.1 hz, fun x h1 h2 => (oq x (Nat.lt_of_lt_of_le h1 h.1)).trans (h.2.1 x h1 h2), h.2.2⟩
theorem ri_one {D : va_G} {cl : List vw_C} {x : Nat × va_E} {H : Heap} (h : va_at D cl x H) : va_P D cl [x] H := by
  intro k q hq
  have hz : k < 1 := (List.getElem?_eq_some_iff.mp hq).1
  rw [show k = 0 by omega] at hq
  cases hq
  exact h
theorem ri_K.arr {D : va_G} {aC : FieldType → ClassId} {U : State} (h : ri_K D aC U) {t : FieldType} (ht : t ∈ rt_ty) : ArrOfT U (aC t) t ∧ va_RA U (aC t) t := by
  obtain ⟨k, hk⟩ := List.getElem?_of_mem ht
  exact h.1.2 k (aC t, t) (by rw [List.getElem?_map, hk]; rfl)
theorem ri_ai_of {e : ri_E} {n : Nat} {f : Nat → Int32} (h : ri_ai e = some (n, f)) : e = .inl (.int, n, .inl f) ∨ ∃ c, e = .inl (.object c, n, .inl f) := by
  unfold ri_ai at h
  split at h
  · cases h; exact Or.inl rfl
  · cases h; exact Or.inr ⟨_, rfl⟩
  · cases h
section RIH
variable {p : Program} {l : Launch} {e : Env} {R : Room} {s : State} {m : MethodId} {args : Array Value} {below : List Frame} {meth : Method} {c : Code} {H : Heap} {locs : List Loc} {cells slots : Nat} {Q : State → Prop}
variable {cc : ByteArray} {pc : Nat} {ls : Array Slot} {rest : List Value} {D : va_G} {cl : List vw_C} {a : Nat}
/-- a field is written: its own, a nest mate's, a final one in its constructor -/
theorem ri_putW (hexec : p.tables.exec = Jvm.exec) (hb : c.code = cc) {own C : String} {T : u_T} {N ci index : Nat} {Ts : List Cond} {tys : List (ClassId × FieldType)} (hts : ∀ w ∈ Ts, w.before args s = true) (hin : ∀ w ∈ u_ws C T N, w ∈ Ts) (ty0 : Nat → FieldType) (hty : ∀ k, k < N → parseFieldDescriptor (T k).2.2.1 = some (ty0 k)) (hnm : ∀ a, a < N → ∀ b, b < N → a ≠ b → (T a).2.1 ≠ (T b).2.1) (hown : s.vm.findClass own = some m.cls) (hK : va_K D cl tys s) {fs : List Value} (hat : va_at D cl (a, .inr (ci, fs)) H) (hc : cl[ci]? = some (C, T, N)) (k : Nat) (hk : k < N)
    (hl : k < fs.length) {ty : FieldType} {v : Value} (hd : parseFieldDescriptor (T k).2.2.1 = some ty) (hn : narrow ty v = v) (hfit : fits ty v = true)
    (hlink : ((T k).2.2.2 = false ∧ (Cond.fieldLink own index (T k).1 (T k).2.1 (T k).2.2.1).before args s = true) ∨ ((T k).2.2.2 = false ∧ ∃ host, (Cond.fieldLinkNest own index (T k).1 (T k).2.1 (T k).2.2.1 host).before args s = true) ∨ ((T k).2.2.2 = true ∧ (Cond.fieldLink own index (T k).1 (T k).2.1 (T k).2.2.1).before args s = true ∧ meth.name = "<init>" ∧ (T k).1 = own))
    (hdg : decode cc pc = .ok (.putfield index, 3)) (kk : ∀ (H1 : Heap) (j : Nat), va_at D cl (a, .inr (ci, fs.set k v)) H1 → H1.size = H.size → (∀ q : Nat, q ≠ a → H1[q]? = H[q]?) → W p l e R s m args below meth c H1 (locs ++ [⟨a, j⟩]) cells slots Q (F0 m (pc + 3) ls rest)) : W p l e R s m args below meth c H locs cells slots Q (F0 m pc ls (v :: .ref a :: rest)) := by
  have hap := va_apart (own := own) hts hin ty0 hty hnm hK hc
  obtain ⟨r, h1, cell, q1, q2, q3, q4⟩ := hat
  have hr : r = (C, T, N) := Option.some.inj (h1.symm.trans hc)
  subst hr
  obtain ⟨hS, hfc, kC, hkC, hkind⟩ := hK.1 ci _ hc
  obtain ⟨cf, kf, fi, f, hi, hsl⟩ := hS k hk
  have hlay := hts _ (hin _ (u_in_lay hk))
  unfold u_lay at hlay
  have hst := (u_facts hfc hkC (u_lays hts hin hk) hi).1
  have fin : ∀ H' : Heap, H'[a]? = some (cell.setSlot f.slot v) → H'.size = H.size → (∀ q, q ≠ a → H'[q]? = H[q]?) → W p l e R s m args below meth c H' (locs ++ [⟨a, f.slot⟩]) cells slots Q (F0 m (pc + 3) ls rest) := by
    intro H' e1 e2 e3
    refine kk H' _ ⟨_, hc, t_OB.to (V := updV (vp_V fs) k v) ⟨_, e1, q2, q3, ?_⟩ (fun j _ => vp_updV_set hl v j)⟩ e2 e3
    rw [hsl]
    exact t_set q4 hap hk v
  have hslot : f.slot < cell.slots.size := by rw [hsl]; exact k2_hasslot (q4 k hk)
  rcases hlink with ⟨hfin, hlink⟩ | ⟨hfin, host, hlink⟩ | ⟨hfin, hlink, hin2, hdecl⟩
  · rw [if_neg (by rw [hfin]; decide)] at hlay
    have h6 := u_store hfc hkC hkind hlay hi hd hn hfit
    exact W.putK hexec hb (f := f) ⟨hown, hlink, ⟨_, _, _, hi⟩, hst⟩ (by rw [q2]; exact h6) q1 q3 hslot rfl rfl hdg fin
  · rw [if_neg (by rw [hfin]; decide)] at hlay
    have h6 := u_store hfc hkC hkind hlay hi hd hn hfit
    exact va_WputK hexec hb (f := f) hown hlink hi hst (by rw [q2]; exact h6) q1 q3 hslot rfl rfl hdg fin
  · rw [if_pos hfin] at hlay
    have hcf : m.cls = cf := by
      obtain ⟨_, _, c', _, _, _, -, -, hf', -, -, -, hown2, -⟩ := Cond.laysFinal_spec hlay
      have e1 : c' = cf := by have := hi.symm.trans hf'; simp at this; exact this.1.symm
      rw [hdecl] at hown2
      rw [← e1]; exact Option.some.inj (hown.symm.trans hown2)
    have h6 := u_fits hfc hkC hkind (Or.inr hlay) hi hd hn hfit
    exact W.putFinK hexec hb hown hlink hi hst hcf hin2 (by rw [q2]; exact h6) q1 q3 hslot rfl rfl hdg fin
end RIH
end
section
/-! A step with cells is the machine's. What part 03 says of the tables: rt_f_ok, rt_n_ok, rt_k_ok, rt_arr. -/
section RIC
variable {p : Program} {l : Launch} {e : Env} {R : Room} {s : State} {m : MethodId} {args : Array Value} {below : List Frame} {meth : Method} {c : Code} {H : Heap} {locs : List Loc} {cells slots : Nat} {Q : State → Prop}
/-- where a method stands -/
def ri_C (D : va_G) (aC : FieldType → ClassId) (M : ri_M) (p : Program) (s : State) (m : MethodId) (args : Array Value) (meth : Method) (c : Code) : Prop :=
  p.tables.exec = Jvm.exec ∧ c.code = M.2.2.1 ∧ c.maxLocals = M.2.2.2.1 ∧ meth.sig.returnType = M.2.2.2.2.1 ∧ s.vm.findClass (rt_cn M.1) = some m.cls ∧ (∀ w ∈ rt_tbl, w.before args s = true) ∧ meth.locks = false ∧ (M.2.1.name = "<init>" → meth.name = "<init>") ∧ ri_K D aC s
theorem ri_asg (vm : Vm) (x : ClassId) : vm.assignable x x = true := by
  show vm.assignableAux (255 + 1) x x = true
  unfold Vm.assignableAux
  rw [beq_self_eq_true, Bool.true_or]
theorem ri_outer (c : ClassId) (N h0 : Nat) : ∀ i : Nat, Jvm.Free.Multi.outerC c N h0 i = arrV c N (fun j => va_rf (if j < i then some (h0 + 1 + j) else none))
  | 0 => by
    show ({ cls := c, slots := Array.replicate N .null, vm := .none } : Cell) = _
    rw [arrV_new]
    refine congrArg (arrV c N) (funext fun j => ?_)
    simp [va_rf]
  | i + 1 => by
    show (Jvm.Free.Multi.outerC c N h0 i).setSlot i (.ref (h0 + 1 + i)) = _
    rw [ri_outer c N h0 i, arrV_store]
    refine congrArg (arrV c N) (funext fun j => ?_)
    by_cases e : j = i
    · subst e
      simp [updV, va_rf]
    · by_cases h : j < i
      · simp [updV, e, h, Nat.lt_succ_of_lt h]
      · simp [updV, e, h, show ¬ j < i + 1 by omega]
theorem ri_in_not {j : Int32} {n : Nat} (h : ¬ (j < 0 ∨ n ≤ j.toNatClampNeg)) : vp_in j n := h
set_option maxHeartbeats 4000000 in
set_option maxRecDepth 100000 in
theorem ri_hxW {D : va_G} {aC : FieldType → ClassId} {z0 : Nat} {M : ri_M} (C0 : ri_C D aC M p s m args meth c) {pc : Nat} {x : Instr × Nat × Nat × Int32} (hc : ri_ck M.2.2.1 (pc, x)) {st st' : List Value} {σ σ' : ri_S} (h : ri_hx M x.1 st σ = some (st', σ')) {ls : Array Slot} {H0 : Heap} (hR : ri_R D aC z0 s σ H) (hS : va_S (fun q => z0 ≤ q) H0 H locs)
    (hcells : cells + (σ'.2.1 - σ.2.1) ≤ R.cells) (hslots : slots + (σ'.2.2 - σ.2.2) ≤ R.slots)
    (kk : ∀ (H1 : Heap) (locs1 : List Loc), ri_R D aC z0 s σ' H1 → va_S (fun q => z0 ≤ q) H0 H1 locs1 → W p l e R s m args below meth c H1 locs1 (cells + (σ'.2.1 - σ.2.1)) (slots + (σ'.2.2 - σ.2.2)) Q (F0 m x.2.1 ls st')) : W p l e R s m args below meth c H locs cells slots Q (F0 m pc ls st) := by
  obtain ⟨hx, hb, hml, hr, hown, hts, hlocks, hnm, hK⟩ := C0
  obtain ⟨i, np, tg, kv⟩ := x
  obtain ⟨hd, hs⟩ := hc
  dsimp only at hd h kk
  have same : ∀ {H1 : Heap} {locs1 : List Loc}, σ'.2 = σ.2 → ri_R D aC z0 s σ' H1 → va_S (fun q => z0 ≤ q) H0 H1 locs1 → W p l e R s m args below meth c H1 locs1 cells slots Q (F0 m np ls st') := by
    intro H1 locs1 e2 q1 q2
    refine W.cs ?_ ?_ (kk H1 locs1 q1 q2) <;> rw [e2] <;> omega
  cases i
  case getfield k =>
    obtain rfl : np = pc + 3 := by simpa [ri_sp] using hs
    simp only [ri_hx] at h
    split at h
    · rename_i a r
      split at h
      · rename_i cj j ty fl hf
        split at h
        · rename_i ck fs ha
          split at h
          · rename_i hck
            subst hck
            split at h
            · rename_i v hv
              cases h
              obtain ⟨C, T, N, g1, g2, g3, g4, g5⟩ := rt_f_ok hf
              obtain ⟨k1, -, -⟩ := rt_k_ok g1
              have hat : va_at D vwCl (a, .inr (ck, fs)) H := (hR.2.2 a _ ha).2
              rcases g5 with ⟨g5, -⟩ | ⟨-, host, g5⟩
              · exact va_get hx hb hts k1 hown hK.1 (ri_one hat) 0 rfl g1 j g2 (hts _ g5) (fun _ q => q) hv (ri_dl hd) (same rfl hR hS)
              · exact va_getN hx hb hts k1 hown hK.1 (ri_one hat) 0 rfl g1 j g2 (va_Nw.use rfl (hK.2.1 _ g5)) (fun _ q => q) hv (ri_dl hd) (same rfl hR hS)
            · cases h
          · cases h
        · cases h
      · cases h
    · cases h
  case putfield k =>
    obtain rfl : np = pc + 3 := by simpa [ri_sp] using hs
    simp only [ri_hx] at h
    split at h
    · rename_i v a r
      split at h
      · rename_i cj j ty fl hf
        split at h
        · rename_i ck fs ha
          split at h
          · rename_i hck
            obtain ⟨h1, h2, h3, h4, h5⟩ := hck
            subst h1
            cases h
            obtain ⟨C, T, N, g1, g2, g3, g4, g5⟩ := rt_f_ok hf
            obtain ⟨k1, ⟨ty0, k2⟩, k3⟩ := rt_k_ok g1
            have hat := hR.2.2 a _ ha
            refine ri_putW hx hb hts k1 ty0 k2 k3 hown hK.1 hat.2 g1 j g2 h4 g3 h2 h3 ?_ (ri_dl hd) (fun H1 jj e1 e2 e3 => ?_)
            · rcases g5 with ⟨g5, g6⟩ | ⟨g6, host, g5⟩
              · rcases h5 with h5 | ⟨h5, h6⟩
                · exact Or.inl ⟨g4.1 h5, hts _ g5⟩
                · exact Or.inr (Or.inr ⟨g4.2 (by omega), hts _ g5, hnm h6, g6 h5⟩)
              · rcases h5 with h5 | ⟨h5, h6⟩
                · exact Or.inr (Or.inl ⟨g4.1 h5, host, va_Nw.use rfl (hK.2.1 _ g5)⟩)
                · exact absurd h5 g6
            · exact same rfl (hR.set ⟨hat.1, e1⟩ e2 e3) (hS.put e2 e3 hat.1)
          · cases h
        · cases h
      · cases h
    · cases h
  case iaload =>
    obtain rfl : np = pc + 1 := by simpa [ri_sp] using hs
    simp only [ri_hx] at h
    split at h
    · rename_i j a r
      split at h
      · rename_i ea ha
        split at h
        · rename_i n f hf
          split at h
          · cases h
          · rename_i hj
            cases h
            have hat := hR.2.2 a _ ha
            rcases ri_ai_of hf with rfl | ⟨cn, rfl⟩
            · exact va_iald hx hb hK.1 (tys := rt_ty.map fun t => (aC t, t)) (ri_one (x := (a, .inl (aC .int, n, .inl f))) hat.2) 0 0 rfl rfl (ri_in_not hj) (ri_dl hd) (same rfl hR hS)
            · obtain ⟨-, scr, s1, s2, s3, s4, s5⟩ := hat
              have hlt : j.toNatClampNeg < n := Nat.not_le.mp fun q => hj (Or.inr q)
              exact W.iald hx hb s1 s2 s3 (by rw [s4]; exact hj) (s5 _ hlt) rfl rfl (ri_dl hd) (same rfl hR hS)
        · cases h
      · cases h
    · cases h
  case laload =>
    obtain rfl : np = pc + 1 := by simpa [ri_sp] using hs
    simp only [ri_hx] at h
    split at h
    · rename_i j a r
      split at h
      · rename_i n f ha
        split at h
        · cases h
        · rename_i hj
          cases h
          have hat := hR.2.2 a _ ha
          exact va_lald hx hb hK.1 (tys := rt_ty.map fun t => (aC t, t)) (ri_one (x := (a, .inl (aC .long, n, .inr (.inl f)))) hat.2) 0 1 rfl rfl (ri_in_not hj) (ri_dl hd) (same rfl hR hS)
      · cases h
    · cases h
  case aaload =>
    obtain rfl : np = pc + 1 := by simpa [ri_sp] using hs
    simp only [ri_hx] at h
    split at h
    · rename_i j a r
      split at h
      · rename_i n f ha
        split at h
        · cases h
        · rename_i hj
          cases h
          have hat := hR.2.2 a _ ha
          have hlt : j.toNatClampNeg < n := Nat.not_le.mp fun q => hj (Or.inr q)
          exact W.aald (v := va_rf (f j.toNatClampNeg)) (ty := .array .int) hx hb hat.2 ((ri_K.arr hK rt_ty_arr).1 n (fun j => va_rf (f j))) rfl (fun q => by cases q) (by show ¬ (j < 0 ∨ (arrV _ _ _).slots.size ≤ _); rw [arrV_size]; exact hj) (by show (arrV _ _ _).slots[_]? = _; rw [arrV_read _ _ hlt]) rfl rfl (ri_dl hd) (same rfl hR hS)
      · cases h
    · cases h
  case iastore =>
    obtain rfl : np = pc + 1 := by simpa [ri_sp] using hs
    simp only [ri_hx] at h
    split at h
    · rename_i v j a r
      split at h
      · rename_i n f ha
        split at h
        · cases h
        · rename_i hj
          cases h
          have hat := hR.2.2 a _ ha
          refine W.iast hx hb hat.2 ((ri_K.arr hK rt_ty_int_in).1 n (fun j => .int (f j))) (fun q => by cases q) (by show ¬ (j < 0 ∨ (arrV _ _ _).slots.size ≤ _); rw [arrV_size]; exact hj) rfl rfl (ri_dl hd) fun H1 e1 z oq => ?_
          refine same rfl (hR.set (e := .inl (.int, n, .inl (upd f j.toNatClampNeg v))) ⟨hat.1, ?_⟩ z oq) (hS.put z oq hat.1)
          show H1[a]? = some (vp_cell _ _)
          rw [e1]
          rw [vp_cell_i, vp_cell_i, arrV_store]
          congr 2
          funext q
          by_cases hq : q = j.toNatClampNeg
          · subst hq
            simp [updV, upd]
          · simp [updV, upd, hq]
      · cases h
    · cases h
  case lastore =>
    obtain rfl : np = pc + 1 := by simpa [ri_sp] using hs
    simp only [ri_hx] at h
    split at h
    · rename_i v j a r
      split at h
      · rename_i n f ha
        split at h
        · cases h
        · rename_i hj
          cases h
          have hat := hR.2.2 a _ ha
          refine W.last hx hb hat.2 ((ri_K.arr hK rt_ty_long_in).1 n (fun j => .long (f j))) (fun q => by cases q) (by show ¬ (j < 0 ∨ (arrV _ _ _).slots.size ≤ _); rw [arrV_size]; exact hj) rfl rfl (ri_dl hd) fun H1 e1 z oq => ?_
          refine same rfl (hR.set (e := .inl (.long, n, .inr (.inl (vp_updL f j.toNatClampNeg v)))) ⟨hat.1, ?_⟩ z oq) (hS.put z oq hat.1)
          show H1[a]? = some (vp_cell _ _)
          rw [e1]
          rw [vp_cell_l, vp_cell_l, arrV_store]
          congr 2
          funext q
          by_cases hq : q = j.toNatClampNeg
          · subst hq
            simp [updV, vp_updL]
          · simp [updV, vp_updL, hq]
      · cases h
    · cases h
  case arraylength =>
    obtain rfl : np = pc + 1 := by simpa [ri_sp] using hs
    simp only [ri_hx] at h
    split at h
    · rename_i a r
      split at h
      · rename_i ea ha
        split at h
        · rename_i n f hf
          cases h
          have hat := hR.2.2 a _ ha
          rcases ri_ai_of hf with rfl | ⟨cn, rfl⟩
          · exact va_alen hx hb hK.1 (tys := rt_ty.map fun t => (aC t, t)) (ri_one (x := (a, .inl (aC .int, n, .inl f))) hat.2) 0 0 rfl rfl rfl (ri_dl hd) (same rfl hR hS)
          · obtain ⟨-, scr, s1, s2, s3, s4, s5⟩ := hat
            exact W.alen (n := nI n) hx hb s1 s2 (by rw [s4]; rfl) rfl rfl (ri_dl hd) (same rfl hR hS)
        · cases h
      · cases h
    · cases h
  case newarray t =>
    obtain rfl : np = pc + 2 := by simpa [ri_sp] using hs
    simp only [ri_hx] at h
    split at h
    · rename_i n r
      split at h
      · cases h
      · rename_i hn
        have hn0 : ¬ n < 0 := fun q => hn (Or.inl q)
        have hn1 : n.toNatClampNeg ≤ 67108864 := Nat.not_lt.mp fun q => hn (Or.inr q)
        cases t
        case int =>
          cases h
          dsimp only at hcells hslots kk
          have z1 : σ.2.1 + 1 - σ.2.1 = 1 := by omega
          have z2 : σ.2.2 + n.toNatClampNeg - σ.2.2 = n.toNatClampNeg := by omega
          rw [z1] at hcells kk
          rw [z2] at hslots kk
          refine va_newaK (atype := .int) hx hb (hts _ rt_arr_int) rfl (ri_dl hd) rfl hn0 rfl (by show _ * 4 ≤ _; omega) hcells hslots rfl fun H1 cA e1 e2 e3 e4 e5 => ?_
          have hcA : cA = aC .int := Option.some.inj (e5.symm.trans (ri_K.arr hK rt_ty_int_in).2)
          subst hcA
          have hk := kk H1 locs (hR.new (e := .inl (.int, n.toNatClampNeg, .inl fun _ => 0)) ⟨hR.2.1, e1⟩ e2 e3) (ri_S.new hS (by omega) e3)
          rw [← hR.1] at hk
          exact hk
        case boolean =>
          cases h
          dsimp only at hcells hslots kk
          have z1 : σ.2.1 + 1 - σ.2.1 = 1 := by omega
          have z2 : σ.2.2 + n.toNatClampNeg - σ.2.2 = n.toNatClampNeg := by omega
          rw [z1] at hcells kk
          rw [z2] at hslots kk
          refine va_newaK (atype := .boolean) hx hb (hts _ rt_arr_bool) rfl (ri_dl hd) rfl hn0 rfl (by show _ * 1 ≤ _; omega) hcells hslots rfl fun H1 cA e1 e2 e3 e4 e5 => ?_
          have hcA : cA = aC .boolean := Option.some.inj (e5.symm.trans (ri_K.arr hK rt_ty_bool_in).2)
          subst hcA
          have hk := kk H1 locs (hR.new (e := .inl (.boolean, n.toNatClampNeg, .inl fun _ => 0)) ⟨hR.2.1, e1⟩ e2 e3) (ri_S.new hS (by omega) e3)
          rw [← hR.1] at hk
          exact hk
        case long =>
          cases h
          dsimp only at hcells hslots kk
          have z1 : σ.2.1 + 1 - σ.2.1 = 1 := by omega
          have z2 : σ.2.2 + n.toNatClampNeg - σ.2.2 = n.toNatClampNeg := by omega
          rw [z1] at hcells kk
          rw [z2] at hslots kk
          refine va_newaK (atype := .long) hx hb (hts _ rt_arr_long) rfl (ri_dl hd) rfl hn0 rfl (by show _ * 8 ≤ _; omega) hcells hslots rfl fun H1 cA e1 e2 e3 e4 e5 => ?_
          have hcA : cA = aC .long := Option.some.inj (e5.symm.trans (ri_K.arr hK rt_ty_long_in).2)
          subst hcA
          have hk := kk H1 locs (hR.new (e := .inl (.long, n.toNatClampNeg, .inr (.inl fun _ => 0))) ⟨hR.2.1, e1⟩ e2 e3) (ri_S.new hS (by omega) e3)
          rw [← hR.1] at hk
          exact hk
        all_goals cases h
    · cases h
  case new k =>
    obtain rfl : np = pc + 3 := by simpa [ri_sp] using hs
    simp only [ri_hx] at h
    split at h
    · rename_i cj fs hf
      cases h
      dsimp only at hcells hslots kk
      have z1 : σ.2.1 + 1 - σ.2.1 = 1 := by omega
      have z2 : σ.2.2 + fs.length - σ.2.2 = fs.length := by omega
      rw [z1] at hcells kk
      rw [z2] at hslots kk
      obtain ⟨C, T, N, ty0, g1, g2, g3, g4, g5, g6, g7⟩ := rt_n_ok hf
      subst g6
      obtain ⟨k1, -, -⟩ := rt_k_ok g1
      have hKn := hK.1.1 cj _ g1
      refine W.newcK hx hb hown (hts _ g3) (hts _ g4) (hts _ g5) rfl (ri_dl hd) hcells hslots hKn.2.1 rfl fun H1 kC hkC e1 e2 e3 => ?_
      have hk := kk H1 locs (hR.new (e := .inr (cj, fs)) ⟨hR.2.1, ⟨_, g1, (u_born ty0 hts k1 hKn hkC e1 g2).to g7⟩⟩ e2 e3) (ri_S.new hS (by omega) e3)
      rw [← hR.1] at hk
      exact hk
    · cases h
  case baload =>
    obtain rfl : np = pc + 1 := by simpa [ri_sp] using hs
    simp only [ri_hx] at h
    split at h
    · rename_i j a r
      split at h
      · rename_i n f ha
        split at h
        · cases h
        · rename_i hj
          cases h
          have hat := hR.2.2 a _ ha
          exact va_zald hx hb hK.1 (tys := rt_ty.map fun t => (aC t, t)) (ri_one (x := (a, .inl (aC .boolean, n, .inl f))) hat.2) 0 3 rfl rfl (ri_in_not hj) (ri_dl hd) (same rfl hR hS)
      · cases h
    · cases h
  case bastore =>
    obtain rfl : np = pc + 1 := by simpa [ri_sp] using hs
    simp only [ri_hx] at h
    split at h
    · rename_i v j a r
      split at h
      · rename_i n f ha
        split at h
        · cases h
        · rename_i hj
          cases h
          have hat := hR.2.2 a _ ha
          refine W.zast hx hb hat.2 ((ri_K.arr hK rt_ty_bool_in).1 n (fun j => .int (f j))) (fun q => by cases q) (by show ¬ (j < 0 ∨ (arrV _ _ _).slots.size ≤ _); rw [arrV_size]; exact hj) rfl rfl (ri_dl hd) fun H1 e1 z oq => ?_
          refine same rfl (hR.set (e := .inl (.boolean, n, .inl (upd f j.toNatClampNeg (vp_nar .boolean v)))) ⟨hat.1, ?_⟩ z oq) (hS.put z oq hat.1)
          show H1[a]? = some (vp_cell _ _)
          rw [e1]
          rw [vp_cell_i, vp_cell_i, arrV_store]
          congr 2
          funext q
          by_cases hq : q = j.toNatClampNeg
          · subst hq
            simp [updV, upd, vp_nar, narrow]
          · simp [updV, upd, hq]
      · cases h
    · cases h
  case aastore =>
    obtain rfl : np = pc + 1 := by simpa [ri_sp] using hs
    simp only [ri_hx] at h
    split at h
    · rename_i v j a r
      split at h
      · rename_i n f ha
        split at h
        · rename_i n2 f2 hv
          split at h
          · cases h
          · rename_i hj
            cases h
            have hat := hR.2.2 a _ ha
            have hav := hR.2.2 v _ hv
            obtain ⟨comp, c0, k, o1, -, o3, o4, o5⟩ := hK.2.2.spec
            have e5 : c0 = aC (.array .int) := Option.some.inj (o5.symm.trans (ri_K.arr hK rt_ty_arr).2)
            have e6 : comp = aC .int := Option.some.inj (o1.symm.trans (ri_K.arr hK rt_ty_int_in).2)
            rw [e5] at o3
            rw [e6] at o4
            obtain ⟨kC, hkC, -⟩ := Vm.findClass_spec (ri_K.arr hK rt_ty_int_in).2
            have h0 : ¬ j < 0 := fun q => hj (Or.inl q)
            have hlt : j.toNatClampNeg < n := Nat.not_le.mp fun q => hj (Or.inr q)
            refine W.aast hx hb hat.2 (fun q h => by cases h) (fun h => by cases h) o3 o4 rfl hkC ⟨h0, by show _ < (arrV _ _ _).slots.size; rw [arrV_size]; exact hlt⟩ hav.2 (fun q h => by cases h) hkC (ri_asg _ _) rfl rfl (ri_dl hd) fun H1 e1 z oq => ?_
            refine same rfl (hR.set (e := .inl (.array .int, n, .inr (.inr (.inr (.inr (va_up f j.toNatClampNeg (some v))))))) ⟨hat.1, ?_⟩ z oq) (hS.put z oq hat.1)
            show H1[a]? = some (vp_cell _ _)
            rw [e1]
            rw [vp_cell_q, vp_cell_q, arrV_store]
            congr 2
            funext q
            by_cases hq : q = j.toNatClampNeg
            · subst hq
              simp [updV, va_up, va_rf]
            · simp [updV, va_up, hq]
        · cases h
      · cases h
    · cases h
  case multianewarray k dm =>
    obtain rfl : np = pc + 4 := by simpa [ri_sp] using hs
    by_cases hdm : dm = 2
    · subst hdm
      simp only [ri_hx] at h
      split at h
      · rename_i hm
        split at h
        · rename_i mm n r
          split at h
          · cases h
          · rename_i hq
            cases h
            have hn0 : ¬ n < 0 := fun q => hq (Or.inl q)
            have hm0 : ¬ mm < 0 := fun q => hq (Or.inr (Or.inl q))
            have hn1 : n.toNatClampNeg ≤ 67108864 := Nat.not_lt.mp fun q => hq (Or.inr (Or.inr (Or.inl q)))
            have hm1 : mm.toNatClampNeg ≤ 67108864 := Nat.not_lt.mp fun q => hq (Or.inr (Or.inr (Or.inr q)))
            dsimp only at hcells hslots kk
            have z1 : σ.2.1 + 1 + n.toNatClampNeg - σ.2.1 = 1 + n.toNatClampNeg := by omega
            have z2 : σ.2.2 + n.toNatClampNeg + n.toNatClampNeg * mm.toNatClampNeg - σ.2.2 = n.toNatClampNeg + n.toNatClampNeg * mm.toNatClampNeg := by omega
            rw [z1] at hcells kk
            rw [z2] at hslots kk
            intro T hT X
            have hdd : decode c.code pc = .ok (.multianewarray k 2, 4) := by rw [hb]; exact ri_dl hd
            obtain ⟨vm₁, cA, comp, -, fA, fC, hO, -, X', step⟩ := X.multianewarray2F hx hown (ty := .int) (hts _ (rt_m_ok hm)) (show (Cond.arrayOver (.array .int)).before args s = true from hK.2.2) (hts _ rt_arr_int) (g := F0 m pc ls (.int mm :: .int n :: r)) rfl hdd rfl hn0 hm0 (by omega) (by show _ * 4 ≤ _; omega) (by omega) rfl rfl hcells hslots
            have eA : cA = aC (.array .int) := Option.some.inj (fA.symm.trans (ri_K.arr hK rt_ty_arr).2)
            have eC : comp = aC .int := Option.some.inj (fC.symm.trans (ri_K.arr hK rt_ty_int_in).2)
            subst eA
            subst eC
            generalize hF : Jvm.Free.Multi.fill (T.setVm vm₁) (aC (.array .int)) (aC .int) n.toNatClampNeg mm.toNatClampNeg (defaultValue .int) n.toNatClampNeg = F at X' step
            have hTh : (T.setVm vm₁).heap = H := hT
            obtain ⟨f1, f2, -, -⟩ := Jvm.Free.Multi.fill_facts (T.setVm vm₁) (aC (.array .int)) (aC .int) n.toNatClampNeg mm.toNatClampNeg (defaultValue .int) n.toNatClampNeg
            rw [hF, hTh] at f1 f2
            have hold : ∀ x : Nat, x < H.size → F.heap[x]? = H[x]? := fun x hx => by
              have := Jvm.Free.Multi.fill_old (T.setVm vm₁) (aC (.array .int)) (aC .int) n.toNatClampNeg mm.toNatClampNeg (defaultValue .int) (a := x) (by rw [hTh]; exact hx) n.toNatClampNeg
              rw [hF, hTh] at this
              exact this
            have hrow : ∀ j : Nat, j < n.toNatClampNeg → F.heap[H.size + 1 + j]? = some (vp_cell (aC .int) (mm.toNatClampNeg, .inl fun _ => 0)) := fun j hj => by
              have := Jvm.Free.Multi.fill_inner (T.setVm vm₁) (aC (.array .int)) (aC .int) n.toNatClampNeg mm.toNatClampNeg (defaultValue .int) n.toNatClampNeg j hj
              rw [hF, hTh] at this
              rw [this, vp_cell_i]
              exact congrArg some (arrV_new _ _ _)
            rw [ri_outer] at f2
            have hsz : H.size = σ.2.1 := hR.1
            have hR2 : ri_R D aC z0 s (ri_grid σ.1 σ.2.1 n.toNatClampNeg mm.toNatClampNeg, σ.2.1 + 1 + n.toNatClampNeg, σ.2.2 + n.toNatClampNeg + n.toNatClampNeg * mm.toNatClampNeg) F.heap := by
              refine ⟨by rw [f1, hsz], by rw [f1]; have := hR.2.1; omega, fun q x hx => ?_⟩
              change ri_grid σ.1 σ.2.1 n.toNatClampNeg mm.toNatClampNeg q = some x at hx
              unfold ri_grid at hx
              by_cases h1 : q = σ.2.1
              · rw [if_pos h1] at hx
                cases hx
                rw [h1, ← hsz]
                exact ⟨hR.2.1, f2⟩
              · rw [if_neg h1] at hx
                by_cases h2 : σ.2.1 < q ∧ q ≤ σ.2.1 + n.toNatClampNeg
                · rw [if_pos h2] at hx
                  cases hx
                  have h3 := hrow (q - (H.size + 1)) (by omega)
                  rw [show H.size + 1 + (q - (H.size + 1)) = q by omega] at h3
                  exact ⟨by have := hR.2.1; omega, h3⟩
                · rw [if_neg h2] at hx
                  exact (hR.2.2 q x hx).kept (hold q (hR.2.2 q x hx).lt)
            have z3 : cells + 1 + n.toNatClampNeg = cells + (1 + n.toNatClampNeg) := by omega
            have z4 : slots + n.toNatClampNeg + n.toNatClampNeg * mm.toNatClampNeg = slots + (n.toNatClampNeg + n.toNatClampNeg * mm.toNatClampNeg) := by omega
            rw [z3, z4] at X'
            obtain ⟨t, a1, b1⟩ := kk F.heap locs hR2 (ri_S.new hS (by omega) hold) F rfl X'
            refine ⟨t, step t ?_, b1⟩
            have e : T.heap.size = σ.2.1 := by rw [hT]; exact hsz
            rw [e]
            exact a1
        · cases h
      · cases h
    · exfalso
      unfold ri_hx at h
      split at h <;> first | (cases h; done) | (rename_i hz; cases hz; exact hdm rfl) | contradiction
  all_goals cases h
end RIC
end
section
/-! A RUN OF THE SMALL MACHINE IS ONE OF THE MACHINE. What part 03 says of the tables: rt_c_ok, rt_o_ok, rt_sd_ok, rt_good. -/
theorem ri_hx_mono {M : ri_M} {i : Instr} {st st' : List Value} {σ σ' : ri_S} (h : ri_hx M i st σ = some (st', σ')) : σ.2.1 ≤ σ'.2.1 ∧ σ.2.2 ≤ σ'.2.2 := by
  unfold ri_hx at h
  (repeat' split at h) <;> first | (cases h; done) | (cases h; exact ⟨Nat.le_refl _, Nat.le_refl _⟩) | (cases h; exact ⟨by dsimp only; omega, by dsimp only; omega⟩)
theorem ri_lf_same {M : ri_M} {i : Instr} {st st' : List Value} {σ σ' : ri_S} (h : ri_lf M i st σ = some (st', σ')) : σ'.2 = σ.2 := by
  unfold ri_lf at h
  (repeat' split at h) <;> first | (cases h; done) | (cases h; rfl)
theorem ri_mono : ∀ (n d : Nat) (M : ri_M) (F : ri_F) (σ σ' : ri_S) (v : Option Value), ri_run n d M F σ = some (v, σ') → σ.2.1 ≤ σ'.2.1 ∧ σ.2.2 ≤ σ'.2.2 := by
  intro n
  induction n with
  | zero => intro d M F σ σ' v h; cases h
  | succ n ih =>
    intro d M F σ σ' v h
    unfold ri_run at h
    split at h
    · cases h
    · split at h
      · cases h; exact ⟨Nat.le_refl _, Nat.le_refl _⟩
      · split at h
        · split at h
          · split at h
            · cases h
            · rename_i h1
              have g1 := ih _ _ _ _ _ _ h1
              have g2 := ih _ _ _ _ _ _ h
              exact ⟨Nat.le_trans g1.1 g2.1, Nat.le_trans g1.2 g2.2⟩
          · cases h
        · split at h
          · rename_i h1
            split at h
            · cases h
            · have g1 := ri_lf_same h1
              have g2 := ih _ _ _ _ _ _ h
              rw [g1] at g2
              exact g2
          · split at h
            · exact ih _ _ _ _ _ _ h
            · split at h
              · rename_i h1
                have g1 := ri_hx_mono h1
                have g2 := ih _ _ _ _ _ _ h
                exact ⟨Nat.le_trans g1.1 g2.1, Nat.le_trans g1.2 g2.2⟩
              · cases h
def ri_ws (M : ri_M) : List Cond := Cond.code M.2.1 M.2.2.1 M.2.2.2.1 M.2.2.2.2.1 :: rt_tbl
theorem ri_good (M M' : ri_M) (h : Cond.code M'.2.1 M'.2.2.1 M'.2.2.2.1 M'.2.2.2.2.1 ∈ rt_tbl) : GoodIn (ri_ws M) (ri_ws M') := by
  intro w hw
  rcases List.mem_cons.mp hw with rfl | hw
  · exact ⟨List.mem_cons_of_mem _ h, rt_good _ h⟩
  · exact ⟨List.mem_cons_of_mem _ hw, rt_good _ hw⟩
theorem ri_K.same {D : va_G} {aC : FieldType → ClassId} {u U : State} (h : u.vm = U.vm) (hK : ri_K D aC u) : ri_K D aC U := ⟨va_K.moved (by rw [h]; exact Vm.Alike.refl _) hK.1, fun w hw => va_Nw.same (rt_sd_ok w hw).1 h (hK.2.1 w hw), hK.2.2.moved (by rw [h]; exact Vm.Alike.refl _)⟩
theorem ri_K.warm {D : va_G} {aC : FieldType → ClassId} {u U : State} (h : u.WarmedH U.vm) (hK : ri_K D aC u) : ri_K D aC U := ⟨va_K.moved h.alike hK.1, fun w hw => (rt_sd_ok w hw).2 u U h (hK.2.1 w hw), hK.2.2.moved h.alike⟩
def ri_Pc (D : va_G) (aC : FieldType → ClassId) (z0 : Nat) (as : List Value) (σ : ri_S) : Array Value → State → Prop := va_Pc as (fun U => ri_R D aC z0 U σ U.heap ∧ ri_K D aC U)
def ri_Qc (D : va_G) (aC : FieldType → ClassId) (z0 : Nat) (v : Option Value) (σ : ri_S) : Array Value → State → Outcome → State → Prop := fun _ st oc t => oc = .returned v ∧ ri_R D aC z0 t σ t.heap ∧ va_F (fun q => z0 ≤ q) st t
theorem ri_blind {D : va_G} {aC : FieldType → ClassId} {z0 : Nat} {as : List Value} {σ : ri_S} : FrameBlind (ri_Pc D aC z0 as σ) := by
  intro a U g mk ⟨h1, h2, h3⟩
  exact ⟨h1, h2.moved (U := U.calling g mk a) (Vm.Alike.refl U.vm), ri_K.same (u := U) (U := U.calling g mk a) rfl h3⟩
section RIR
variable {p : Program} {l : Launch} {e : Env} {R : Room} {s : State} {m : MethodId} {args : Array Value} {below : List Frame} {meth : Method} {c : Code} {H : Heap} {locs : List Loc} {cells slots : Nat} {Q : State → Prop}
/-- a return -/
theorem ri_retW {D : va_G} {aC : FieldType → ClassId} {M : ri_M} (C0 : ri_C D aC M p s m args meth c) {Qc : Array Value → State → Outcome → State → Prop} {free : Addr → Prop} {pc : Nat} {i : Instr} {st : List Value} {ls : Array Slot} {v : Option Value} (hd : decode M.2.2.1 pc = .ok (i, 1)) (h : ri_rt M i st = some v)
    (hq : ∀ t : State, t.heap = H → s.WarmedH t.vm → Qc args s (.returned v) t) (hf : ∀ q ∈ locs, free q.base) : W p l e R s m args below meth c H locs cells slots (MQ below Qc args s cells slots free) (F0 m pc ls st) := by
  obtain ⟨hx, hb, hml, hr, hown, hts, hlocks, hnm, hK⟩ := C0
  cases i
  case ireturn =>
    simp only [ri_rt] at h
    split at h
    · split at h
      · rename_i hm
        cases h
        rw [hm] at hr
        exact W.iret hx hb hr hq hf hd hlocks
      · rename_i hm
        rw [hm] at hr
        split at h
        · rename_i q
          cases h
          exact W.zret hx hb hr (by rcases q with rfl | rfl <;> rfl) hq hf hd hlocks
        · cases h
      · cases h
    · cases h
  case lreturn =>
    simp only [ri_rt] at h
    split at h
    · split at h
      · rename_i hm
        cases h
        rw [hm] at hr
        exact W.lret hx hb hr hq hf hd hlocks
      · cases h
    · cases h
  case areturn =>
    simp only [ri_rt] at h
    split at h
    · split at h
      · rename_i t hm
        cases h
        rw [hm] at hr
        exact W.aret hx hb hr (Or.inr ⟨_, rfl⟩) (Or.inr ⟨_, rfl⟩) hq hf hd hlocks
      · rename_i t hm
        cases h
        rw [hm] at hr
        exact W.aret hx hb hr (Or.inl ⟨_, rfl⟩) (Or.inr ⟨_, rfl⟩) hq hf hd hlocks
      · cases h
    · cases h
  case return_ =>
    simp only [ri_rt] at h
    split at h
    · split at h
      · rename_i hm
        cases h
        rw [hm] at hr
        exact W.vret hx hb hr hq hf hd hlocks
      · cases h
    · cases h
  all_goals cases h
theorem ri_rt_np {M : ri_M} {pc : Nat} {x : Instr × Nat × Nat × Int32} {st : List Value} {v : Option Value} (h : ri_rt M x.1 st = some v) (hc : ri_ck M.2.2.1 (pc, x)) : decode M.2.2.1 pc = .ok (x.1, 1) := by
  obtain ⟨i, np, tg, kv⟩ := x
  obtain ⟨hd, hs⟩ := hc
  dsimp only at hd h ⊢
  cases i
  case ireturn => obtain rfl : np = pc + 1 := by simpa [ri_sp] using hs
                  exact ri_dl hd
  case lreturn => obtain rfl : np = pc + 1 := by simpa [ri_sp] using hs
                  exact ri_dl hd
  case areturn => obtain rfl : np = pc + 1 := by simpa [ri_sp] using hs
                  exact ri_dl hd
  case return_ => obtain rfl : np = pc + 1 := by simpa [ri_sp] using hs
                  exact ri_dl hd
  all_goals cases h
/-- behind a call -/
theorem ri_goOn {D : va_G} {aC : FieldType → ClassId} {z0 : Nat} {σ1 : ri_S} {v : Option Value} {a : Array Value} {pc mc ms : Nat} {ls : Array Slot} {st0 rest : List Value} {H0 : Heap}
    (hr : va_Run p l e R s m args below meth c H locs cells slots mc ms (F0 m pc ls st0) rest (ri_Qc D aC z0 v σ1 a) (fun q => z0 ≤ q)) (hS : va_S (fun q => z0 ≤ q) H0 H locs)
    (kk : ∀ (H1 : Heap) (locs1 : List Loc), ri_R D aC z0 s σ1 H1 → va_S (fun q => z0 ≤ q) H0 H1 locs1 → W p l e R s m args below meth c H1 locs1 (cells + mc) (slots + ms) Q (F0 m (pc + 3) ls (v.toList ++ rest))) : W p l e R s m args below meth c H locs cells slots Q (F0 m pc ls st0) := by
  intro T hT X
  obtain ⟨v', st₀, t, T', L, h0, X', hL, e1, e2, ⟨hv, hR1, hz, hk⟩, st⟩ := hr T hT X
  cases hv
  rw [h0] at hz hk
  have hal : t.vm.Alike s.vm := by rw [← e2]; exact X'.warmed.alike.symm
  obtain ⟨t2, a1, b1⟩ := kk T'.heap (locs ++ L) (by rw [e1]; exact hR1.moved hal)
    ⟨Nat.le_trans hS.1 (by rw [e1]; exact hz), fun q h1 h2 => by rw [e1, hk q (Nat.lt_of_lt_of_le h1 hS.1) h2]; exact hS.2.1 q h1 h2, fun q hq => by
      rcases List.mem_append.mp hq with h | h
      · exact hS.2.2 q h
      · exact hL q h⟩ T' rfl X'
  exact ⟨t2, st t2 a1, b1⟩
end RIR
end
section
/-! THE RUN, whole. -/
theorem ri_gin {ws : List Cond} (h : ∀ w ∈ ws, w ∈ rt_tbl) : GoodIn rt_tbl ws := fun w hw => ⟨h w hw, rt_good _ (h w hw)⟩
theorem ri_cl_ok {M M' : ri_M} {i : Instr} {st as r : List Value} {σ : ri_S} (h : ri_cl M i st σ = some (M', as, r)) : ri_okM M' := by
  unfold ri_cl at h
  (repeat' split at h) <;> first | (cases h; done) | (cases h; exact (rt_c_ok (by assumption)).1)
section RIX
variable {p : Program} {l : Launch} {e : Env} {R : Room} {s : State} {m : MethodId} {args : Array Value} {below : List Frame} {meth : Method} {c : Code} {H : Heap} {locs : List Loc} {cells slots : Nat} {Q : State → Prop}
set_option maxHeartbeats 4000000 in
set_option maxRecDepth 100000 in
/-- a call, over the callee's contract -/
theorem ri_clW {D : va_G} {aC : FieldType → ClassId} {z0 : Nat} {M M' : ri_M} (C0 : ri_C D aC M p s m args meth c) {pc : Nat} {x : Instr × Nat × Nat × Int32} (hc : ri_ck M.2.2.1 (pc, x)) {st as r : List Value} {σ σ1 : ri_S} {v : Option Value} {rm : Room} (hcl : ri_cl M x.1 st σ = some (M', as, r)) {ls : Array Slot} (hsz : ls.size = M.2.2.2.1) (hR : ri_R D aC z0 s σ H)
    (hM : Met l M'.2.1 (ri_ws M') rm (ri_Pc D aC z0 as σ) (ri_Qc D aC z0 v σ1) rm.cells rm.slots (fun q => z0 ≤ q)) (hfr : rm.frames + 1 ≤ R.frames) (hlo : 8 + (M'.2.2.2.1 + 11) + rm.locals ≤ R.locals) (hf : cells + rm.cells ≤ R.cells ∧ slots + rm.slots ≤ R.slots) :
    x.2.1 = pc + 3 ∧ va_Run p l e R s m args below meth c H locs cells slots rm.cells rm.slots (F0 m pc ls st) r (ri_Qc D aC z0 v σ1 as.toArray) (fun q => z0 ≤ q) := by
  obtain ⟨hx, hb, hml, hr, hown, hts, hlocks, hnm, hK⟩ := C0
  obtain ⟨i, np, tg, kv⟩ := x
  obtain ⟨hd, hs⟩ := hc
  dsimp only at hd hcl ⊢
  have hPc : ∀ U : State, U.heap = H → s.WarmedH U.vm → ri_Pc D aC z0 as σ as.toArray U := fun U hU hW => ⟨rfl, by rw [hU]; exact hR.moved hW.alike, hK.warm hW⟩
  cases i
  case invokevirtual k =>
    obtain rfl : np = pc + 3 := by simpa [ri_sp] using hs
    refine ⟨rfl, ?_⟩
    simp only [ri_cl] at hcl
    split at hcl
    · rename_i M1 n hf1
      split at hcl
      · rename_i b r1 hdr
        split at hcl
        · rename_i ck fs hb1
          split at hcl
          · rename_i hq
            obtain ⟨q1, q2, q3⟩ := hq
            cases hcl
            obtain ⟨okM, hini, hmh, hpar, g0⟩ := rt_c_ok hf1
            obtain ⟨T, N, g1, g2, g3, g4⟩ := g0
            have hat := hR.2.2 b _ hb1
            subst q1
            exact va_runV (C := M'.2.1.cls) (As := (st.take n).reverse) ⟨hx, hb, hml, hown, hts⟩ hM
              ⟨callB_of n hts (ri_gin (ws := ri_ws M') (fun w hw => by rcases List.mem_cons.mp hw with rfl | hw; exact okM.2.2.2.1; exact hw)) rfl rfl rfl (hts _ hini) (hts _ g2) ⟨hmh.1, hmh.2, hpar⟩ ⟨hfr, hlo⟩, hts _ g3, hts _ g4⟩
              ⟨ri_blind, va_recv hK.1 (ri_one hat.2) g1 (q0 := 0) rfl, hPc⟩ rfl (by rw [List.length_reverse]; exact q2) hsz (by rw [List.reverse_reverse, ← hdr]; exact (List.take_append_drop n st).symm) (lv_room q3) (ri_dl hd) hf
          · cases hcl
        · cases hcl
      · cases hcl
    · cases hcl
  case invokestatic k =>
    obtain rfl : np = pc + 3 := by simpa [ri_sp] using hs
    refine ⟨rfl, ?_⟩
    simp only [ri_cl] at hcl
    split at hcl
    · rename_i M1 n hf1
      split at hcl
      · rename_i hq
        cases hcl
        obtain ⟨okM, hini, hmh, hpar, g2, g3⟩ := rt_c_ok hf1
        exact va_runS (As := (st.take n).reverse) ⟨hx, hb, hml, hown, hts⟩ hM
          ⟨callB_of n hts (ri_gin (ws := ri_ws M') (fun w hw => by rcases List.mem_cons.mp hw with rfl | hw; exact okM.2.2.2.1; exact hw)) rfl rfl rfl (hts _ hini) (hts _ g2) ⟨hmh.1, hmh.2, hpar⟩ ⟨hfr, hlo⟩, hts _ g3⟩
          ⟨ri_blind, hPc⟩ rfl (by rw [List.length_reverse]; exact hq.1) hsz (by rw [List.reverse_reverse]; exact (List.take_append_drop n st).symm) (lv_room hq.2) (ri_dl hd) hf
      · cases hcl
    · rename_i M1 n hf1
      split at hcl
      · rename_i hq
        cases hcl
        obtain ⟨okM, hini, hmh, hpar, ⟨host, g2⟩, g3⟩ := rt_c_ok hf1
        exact va_runSN (As := (st.take n).reverse) ⟨hx, hb, hml, hown, hts⟩ hM
          ⟨va_cnB n hts (ri_gin (ws := ri_ws M') (fun w hw => by rcases List.mem_cons.mp hw with rfl | hw; exact okM.2.2.2.1; exact hw)) rfl rfl rfl (hK.2.1 _ g2) (hts _ hini) ⟨hmh.1, hmh.2, hpar⟩ ⟨hfr, hlo⟩, hts _ g3, trivial⟩
          ⟨ri_blind, hPc⟩ rfl (by rw [List.length_reverse]; exact hq.1) hsz (by rw [List.reverse_reverse]; exact (List.take_append_drop n st).symm) (lv_room hq.2) (ri_dl hd) hf
      · cases hcl
    · cases hcl
  case invokespecial k =>
    obtain rfl : np = pc + 3 := by simpa [ri_sp] using hs
    refine ⟨rfl, ?_⟩
    simp only [ri_cl] at hcl
    split at hcl
    · rename_i M1 n hf1
      split at hcl
      · rename_i b r1 hdr
        split at hcl
        · rename_i hq
          cases hcl
          obtain ⟨okM, hini, hmh, hpar, g2, g3, g4, g5⟩ := rt_c_ok hf1
          exact va_runI (As := (st.take n).reverse) (bytes := M'.2.2.1) (maxL := M'.2.2.2.1) ⟨hx, hb, hml, hown, hts⟩ hM
            ⟨callB_of n hts (ri_gin (ws := ri_ws M') (fun w hw => by rcases List.mem_cons.mp hw with rfl | hw; exact okM.2.2.2.1; exact hw)) (by unfold ri_ws; rw [g5]) rfl rfl (hts _ hini) (hts _ g2) ⟨hmh.1, hmh.2, hpar⟩ ⟨hfr, hlo⟩, g4, hts _ g3⟩
            ⟨ri_blind, hPc⟩ rfl (by rw [List.length_reverse]; exact hq.1) hsz (by rw [List.reverse_reverse, ← hdr]; exact (List.take_append_drop n st).symm) (lv_room hq.2) (ri_dl hd) hf
        · cases hcl
      · cases hcl
    · rename_i M1 n hf1
      split at hcl
      · rename_i b r1 hdr
        split at hcl
        · rename_i hq
          cases hcl
          obtain ⟨okM, hini, hmh, hpar, ⟨host, g2⟩, g3, g4, g5⟩ := rt_c_ok hf1
          exact va_runIN (As := (st.take n).reverse) (bytes := M'.2.2.1) (maxL := M'.2.2.2.1) ⟨hx, hb, hml, hown, hts⟩ hM
            ⟨va_cnB n hts (ri_gin (ws := ri_ws M') (fun w hw => by rcases List.mem_cons.mp hw with rfl | hw; exact okM.2.2.2.1; exact hw)) (by unfold ri_ws; rw [g5]) rfl rfl (hK.2.1 _ g2) (hts _ hini) ⟨hmh.1, hmh.2, hpar⟩ ⟨hfr, hlo⟩, g4, hts _ g3⟩
            ⟨ri_blind, hPc⟩ rfl (by rw [List.length_reverse]; exact hq.1) hsz (by rw [List.reverse_reverse, ← hdr]; exact (List.take_append_drop n st).symm) (lv_room hq.2) (ri_dl hd) hf
        · cases hcl
      · cases hcl
    · cases hcl
  all_goals cases hcl
/-- System.arraycopy of ints -/
theorem ri_cpyW {D : va_G} {aC : FieldType → ClassId} {cc : ByteArray} {pc : Nat} {ls : Array Slot} {rest : List Value} {a : Nat} (hexec : p.tables.exec = Jvm.exec) (hb : c.code = cc) (hml : c.maxLocals = ls.size) {own : String} {index : Nat} (hown : s.vm.findClass own = some m.cls) (hlink : (Cond.methodLink own index arraycopyName).before args s = true) (hnat : (Cond.native arraycopyName).before args s = true) (hstat : (Cond.static arraycopyName).before args s = true) (hini : (Cond.initialized "java/lang/System").before args s = true)
    (hK : ri_K D aC s) {a0 n0 n1 : Nat} {f g : Nat → Int32} (hc0 : H[a0]? = some (vp_cell (aC .int) (n0, .inl f))) (hc1 : H[a]? = some (vp_cell (aC .int) (n1, .inl g)))
    {sp dp n : Int32} (h1 : ¬ sp < 0) (h2 : ¬ dp < 0) (h3 : ¬ n < 0) (h4 : sp.toNatClampNeg + n.toNatClampNeg ≤ n0) (h5 : dp.toNatClampNeg + n.toNatClampNeg ≤ n1)
    (hframes : 1 ≤ R.frames) (hlocals : (rest.map fun v => v.category).sum + (nativeFrameWords "java/lang/System" "arraycopy" 5 + 11) ≤ R.locals) (hdg : decode cc pc = .ok (.invokestatic index, 3))
    (kk : ∀ (H1 : Heap) (L : List Loc), H1[a]? = some (vp_cell (aC .int) (n1, .inl (va_cpy f g sp.toNatClampNeg dp.toNatClampNeg n.toNatClampNeg))) → H1.size = H.size → (∀ q : Nat, q ≠ a → H1[q]? = H[q]?) → (∀ q ∈ L, q.base = a) → W p l e R s m args below meth c H1 (locs ++ L) cells slots Q (F0 m (pc + 3) ls rest)) : W p l e R s m args below meth c H locs cells slots Q (F0 m pc ls (.int n :: .int dp :: .ref a :: .int sp :: .ref a0 :: rest)) := by
  have nn : ∀ z : Int32, ¬ z < 0 → z.toInt = (z.toNatClampNeg : Int) := by
    intro z hz
    have hz0 : (0 : Int) ≤ z.toInt := by
      have := Int32.not_lt.mp hz
      simpa using Int32.le_iff_toInt_le.mp this
    show z.toInt = ((z.toInt.toNat : Nat) : Int)
    omega
  intro T hT X
  obtain ⟨-, k0, hk0, cm0, hkk0⟩ := (ri_K.arr hK rt_ty_int_in).1 n0 (fun j => .int (f j))
  obtain ⟨vm', X', step⟩ := X.arraycopy hexec hown hlink hnat hstat hini (src := a0) (dst := a) (cs := vp_cell (aC .int) (n0, .inl f)) (cd := vp_cell (aC .int) (n1, .inl g)) (srcPos := sp) (destPos := dp) (n := n) (by rw [hT]; exact hc0) (by rw [hT]; exact hc1)
    (fun _ h => by cases h) (fun _ h => by cases h) (fun h => by cases h) (fun h => by cases h) hk0 hk0 hkk0 hkk0 (by simp [refKind]) h1 h2 h3
    (by rw [nn sp h1, nn n h3]; show ¬ _ > ((arrV (aC .int) n0 (fun j => .int (f j))).slots.size : Int); rw [arrV_size]; omega)
    (by rw [nn dp h2, nn n h3]; show ¬ _ > ((arrV (aC .int) n1 (fun j => .int (g j))).slots.size : Int); rw [arrV_size]; omega)
    (fun vm₁ _ i hi => by
      have e : (vp_cell (aC .int) (n0, .inl f)).slots.getD (sp.toNatClampNeg + i) .null = .int (f (sp.toNatClampNeg + i)) := by
        show (arrV (aC .int) n0 (fun j => .int (f j))).slots.getD _ _ = _
        rw [Array.getD_eq_getD_getElem?, arrV_read _ _ (by omega)]
        rfl
      refine ⟨?_, ?_⟩
      · rw [e]; rfl
      · rw [e]; exact trivial)
    (g := F0 m pc ls (.int n :: .int dp :: .ref a :: .int sp :: .ref a0 :: rest)) rfl (by rw [hml]) (rest := rest) rfl (by rw [hb]; exact hdg) hframes (by show 2 * 0 + _ + _ ≤ _; omega)
  have e1 : copied (vp_cell (aC .int) (n0, .inl f)) (vp_cell (aC .int) (n1, .inl g)) sp dp n = vp_cell (aC .int) (n1, .inl (va_cpy f g sp.toNatClampNeg dp.toNatClampNeg n.toNatClampNeg)) := va_copied (fun z => .int z) (aC .int) (aC .int) f g h4
  rw [e1] at X' step
  have hl : a < H.size := (Array.getElem?_eq_some_iff.mp hc1).1
  obtain ⟨t, a1, b1⟩ := kk (H.setIfInBounds a (vp_cell (aC .int) (n1, .inl (va_cpy f g sp.toNatClampNeg dp.toNatClampNeg n.toNatClampNeg)))) _ (by simp [Array.getElem?_setIfInBounds, hl]) (by simp) (fun q hq => by simp [Array.getElem?_setIfInBounds, Ne.symm hq]) (fun q hq => by
      obtain ⟨z, -, hz⟩ := List.mem_map.mp hq
      rw [← hz]) _ (by rw [← hT]; rfl) X'
  exact ⟨t, step t a1, b1⟩
/-- a call that is done at once -/
theorem ri_lfW {D : va_G} {aC : FieldType → ClassId} {z0 : Nat} {M : ri_M} (C0 : ri_C D aC M p s m args meth c) {pc : Nat} {x : Instr × Nat × Nat × Int32} (hc : ri_ck M.2.2.1 (pc, x)) {st st' : List Value} {σ σ' : ri_S} (h : ri_lf M x.1 st σ = some (st', σ')) {ls : Array Slot} {H0 : Heap} (hsz : ls.size = M.2.2.2.1) (hfr : 1 ≤ R.frames) (hlo : 64 ≤ R.locals) (hce : cells ≤ R.cells) (hsl : slots ≤ R.slots) (hR : ri_R D aC z0 s σ H) (hS : va_S (fun q => z0 ≤ q) H0 H locs)
    (kk : ∀ (H1 : Heap) (locs1 : List Loc), ri_R D aC z0 s σ' H1 → va_S (fun q => z0 ≤ q) H0 H1 locs1 → W p l e R s m args below meth c H1 locs1 cells slots Q (F0 m x.2.1 ls st')) : W p l e R s m args below meth c H locs cells slots Q (F0 m pc ls st) := by
  obtain ⟨hx, hb, hml, hr, hown, hts, hlocks, hnm, hK⟩ := C0
  obtain ⟨i, np, tg, kv⟩ := x
  obtain ⟨hd, hs⟩ := hc
  dsimp only at hd h kk
  cases i
  case invokespecial k =>
    obtain rfl : np = pc + 3 := by simpa [ri_sp] using hs
    simp only [ri_lf] at h
    split at h
    · rename_i ho
      split at h
      · split at h
        · rename_i q
          cases h
          exact W.objInit hx hb hown (hts _ (rt_o_ok ho)) (hts _ rt_lf_obj.1) (hts _ rt_lf_obj.2) rfl (hsz.trans hml.symm) rfl (ri_dl hd) hfr (by have := lv_room (m := m) (pc := pc) (ls := ls) (rest := []) q; exact Nat.le_trans (Nat.add_le_add_right this 12) (by omega)) (kk H locs hR hS)
        · cases h
      · cases h
    · cases h
  case invokestatic k =>
    obtain rfl : np = pc + 3 := by simpa [ri_sp] using hs
    simp only [ri_lf] at h
    split at h
    · rename_i ho
      split at h
      · split at h
        · rename_i q
          cases h
          exact va_mmax hx hb (hml.trans hsz.symm) hown (hts _ (rt_o_ok ho)) (hts _ rt_lf_max.1) (hts _ rt_lf_max.2.1) (hts _ rt_lf_max.2.2) hfr (by omega) hce hsl (ri_dl hd) (kk H locs hR hS)
        · cases h
      · cases h
    · rename_i ho
      split at h
      · split at h
        · rename_i q
          cases h
          exact va_mmin hx hb (hml.trans hsz.symm) hown (hts _ (rt_o_ok ho)) (hts _ rt_lf_min.1) (hts _ rt_lf_min.2.1) (hts _ rt_lf_min.2.2) hfr (by omega) hce hsl (ri_dl hd) (kk H locs hR hS)
        · cases h
      · cases h
    · rename_i ho
      split at h
      · split at h
        · rename_i n0 f ha0
          split at h
          · rename_i n1 g ha1
            split at h
            · rename_i q
              obtain ⟨⟨q1, q2, q3⟩, q4, q5, q6⟩ := q
              cases h
              have hat0 := hR.2.2 _ _ ha0
              have hat1 := hR.2.2 _ _ ha1
              refine ri_cpyW hx hb (hml.trans hsz.symm) hown (hts _ (rt_o_ok ho)) (hts _ rt_lf_cpy.1) (hts _ rt_lf_cpy.2.1) (hts _ rt_lf_cpy.2.2) hK hat0.2 hat1.2 q1 q2 q3 q4 q5 hfr ?_ (ri_dl hd) (fun H1 LL e1 e2 e3 e4 => ?_)
              · have : nativeFrameWords "java/lang/System" "arraycopy" 5 ≤ 40 := by decide +kernel
                omega
              · refine kk H1 _ (hR.set (e := .inl (.int, n1, .inl _)) ⟨hat1.1, e1⟩ e2 e3) ⟨by rw [e2]; exact hS.1, fun q h1 h2 => ?_, fun q hq => ?_⟩
                · rw [e3 q (fun e => h2 (by rw [e]; exact hat1.1))]
                  exact hS.2.1 q h1 h2
                · rcases List.mem_append.mp hq with h1 | h1
                  · exact hS.2.2 q h1
                  · rw [e4 q h1]; exact hat1.1
            · cases h
          · cases h
        · cases h
      · cases h
    · cases h
  all_goals cases h
end RIX
set_option maxHeartbeats 4000000 in
set_option maxRecDepth 100000 in
theorem ri_sound {D : va_G} {aC : FieldType → ClassId} {z0 : Nat} {l : Launch} : ∀ (n d : Nat) (M : ri_M) (F : ri_F) (σ σ' : ri_S) (v : Option Value), ri_run n d M F σ = some (v, σ') → (∀ x ∈ M.2.2.2.2.2, ri_ck M.2.2.1 x) →
    ∀ {p : Program} {e : Env} {R : Room} {s : State} {m : MethodId} {args : Array Value} {below : List Frame} {meth : Method} {c : Code} {H : Heap} {locs : List Loc} {cells slots : Nat} {Q : State → Prop} {ls : Array Slot}, ri_C D aC M p s m args meth c → ri_R D aC z0 s σ H → va_S (fun q => z0 ≤ q) s.heap H locs → ri_H ls F.2.1 → F.2.1.length = M.2.2.2.1 → d ≤ R.frames → 64 * d ≤ R.locals → cells + (σ'.2.1 - σ.2.1) ≤ R.cells → slots + (σ'.2.2 - σ.2.2) ≤ R.slots →
    (∀ (H1 : Heap) (locs1 : List Loc) (ls1 : Array Slot) (pc1 : Nat) (i : Instr) (st1 : List Value), decode M.2.2.1 pc1 = .ok (i, 1) → ri_rt M i st1 = some v → ri_R D aC z0 s σ' H1 → va_S (fun q => z0 ≤ q) s.heap H1 locs1 → W p l e R s m args below meth c H1 locs1 (cells + (σ'.2.1 - σ.2.1)) (slots + (σ'.2.2 - σ.2.2)) Q (F0 m pc1 ls1 st1)) →
    W p l e R s m args below meth c H locs cells slots Q (F0 m F.1 ls F.2.2) := by
  intro n
  induction n with
  | zero => intro d M F σ σ' v h; cases h
  | succ n ih =>
    intro d M F σ σ' v h okM p e R s m args below meth c H locs cells slots Q ls C0 hR hS hl hlen hfr hlo hce hsl hret
    obtain ⟨pc, L, st⟩ := F
    unfold ri_run at h
    dsimp only at h hl hlen ⊢
    split at h
    · cases h
    · rename_i x hfind
      have hck := okM _ (ri_find_mem hfind)
      split at h
      · rename_i v1 hrt
        cases h
        refine W.cs ?_ ?_ (hret H locs ls pc x.1 st (ri_rt_np hrt hck) hrt hR hS) <;> omega
      · split at h
        · rename_i M' as r hcl
          split at h
          · rename_i d' hble
            split at h
            · cases h
            · rename_i v1 σ1 hrun
              have m1 := ri_mono _ _ _ _ _ _ _ hrun
              have m2 := ri_mono _ _ _ _ _ _ _ h
              have okM' : ri_okM M' := ri_cl_ok hcl
              have hM : Met l M'.2.1 (ri_ws M') { frames := d', cells := σ1.2.1 - σ.2.1, slots := σ1.2.2 - σ.2.2, locals := 64 * d' } (ri_Pc D aC z0 as σ) (ri_Qc D aC z0 v1 σ1) (σ1.2.1 - σ.2.1) (σ1.2.2 - σ.2.2) (fun q => z0 ≤ q) := by
                refine Met.ofW (cc := M'.2.2.1) (maxL := M'.2.2.2.1) (ret := M'.2.2.2.2.1) okM'.2.2.1 rfl ?_
                intro p e s m args below meth c s₁ B hml hv
                obtain ⟨rfl, hR1, hK1⟩ := hv
                have hts : ∀ w ∈ rt_tbl, w.before _ s = true := fun w hw => atoms_spec (ws := ri_ws M') B.pre w (List.mem_cons_of_mem _ hw)
                have hown : s.vm.findClass (rt_cn M'.1) = some m.cls := by rw [← okM'.2.1]; exact findClass_of_methodNamed B.named
                have C1 : ri_C D aC M' p s m as.toArray meth c := ⟨B.exec, B.bytes, hml, B.returns, hown, hts, B.notSynchronized, fun q => (name_of_methodNamed B.named B.method).1.trans q, hK1⟩
                rw [lg_entry_eq]
                have hle : (ri_ent as).length ≤ M'.2.2.2.1 := Nat.le_of_ble_eq_true hble
                refine ih d' M' (0, ri_loc M'.2.2.2.1 as, []) σ σ1 v1 hrun okM'.1 C1 hR1 va_S.rf (ri_entry as hle) ?_ (Nat.le_refl _) (Nat.le_refl _) (by show 0 + _ ≤ _; rw [Nat.zero_add]; exact Nat.le_refl _) (by show 0 + _ ≤ _; rw [Nat.zero_add]; exact Nat.le_refl _) ?_
                · unfold ri_loc
                  rw [List.length_append, List.length_replicate]
                  omega
                · intro H1 locs1 ls1 pc1 i st1 q1 q2 q3 q4
                  rw [Nat.zero_add, Nat.zero_add]
                  exact ri_retW C1 q1 q2 (fun t ht hW => ⟨rfl, by rw [ht]; exact q3.moved hW.alike, q4.F ht⟩) q4.2.2
              obtain ⟨e3, hrun2⟩ := ri_clW (p := p) (e := e) (below := below) (cells := cells) (slots := slots) (locs := locs) C0 hck hcl (ls := ls) (by rw [hl.1, hlen]) hR hM (by dsimp only; omega) (by dsimp only; have := okM'.2.2.2.2; omega) (by dsimp only; omega)
              rw [e3] at h
              refine ri_goOn hrun2 hS (fun H1 locs1 k1 k2 => ?_)
              dsimp only
              refine ih (d' + 1) M _ σ1 σ' v h okM C0 k1 k2 hl hlen hfr hlo (by omega) (by omega) ?_
              intro H2 locs2 ls2 pc2 i2 st2 q1 q2 q3 q4
              refine W.cs ?_ ?_ (hret H2 locs2 ls2 pc2 i2 st2 q1 q2 q3 q4) <;> omega
          · cases h
        · split at h
          · rename_i st' σ1 hlf
            split at h
            · cases h
            · rename_i d'
              have e0 := ri_lf_same hlf
              have e1 : σ1.2.1 = σ.2.1 := by rw [e0]
              have e2 : σ1.2.2 = σ.2.2 := by rw [e0]
              refine ri_lfW C0 hck hlf (by rw [hl.1, hlen]) (by omega) (by omega) (by omega) (by omega) hR hS (fun H1 locs1 k1 k2 => ?_)
              refine ih (d' + 1) M _ σ1 σ' v h okM C0 k1 k2 hl hlen hfr hlo (by omega) (by omega) ?_
              intro H2 locs2 ls2 pc2 i2 st2 q1 q2 q3 q4
              refine W.cs ?_ ?_ (hret H2 locs2 ls2 pc2 i2 st2 q1 q2 q3 q4) <;> omega
          · split at h
            · rename_i F' hpx
              obtain ⟨hx, hb, hml, hr, hown, hts, hlocks, hnm, hK⟩ := id C0
              refine ri_pxW hx hb hown (fun k v q => hts _ (rt_i_ok q)) (fun k v q => hts _ (rt_l_ok q)) hck hpx hl (fun ls' hl' => ?_)
              exact ih d M F' σ σ' v h okM C0 hR hS hl' (by rw [ri_px_len hpx]; exact hlen) hfr hlo hce hsl hret
            · split at h
              · rename_i st' σ1 hhx
                have m1 := ri_hx_mono hhx
                have m2 := ri_mono _ _ _ _ _ _ _ h
                refine ri_hxW C0 hck hhx hR hS (by omega) (by omega) (fun H1 locs1 k1 k2 => ?_)
                refine ih d M _ σ1 σ' v h okM C0 k1 k2 hl hlen hfr hlo (by omega) (by omega) ?_
                intro H2 locs2 ls2 pc2 i2 st2 q1 q2 q3 q4
                refine W.cs ?_ ?_ (hret H2 locs2 ls2 pc2 i2 st2 q1 q2 q3 q4) <;> omega
              · cases h
end
section
/-! RUNS BY THEIR ENDS: ev_W d M F σ Q: the small machine, with d calls to spare, comes from F to an answer and cells with Q. -/
theorem ri_more : ∀ (n d : Nat) (M : ri_M) (F : ri_F) (σ : ri_S) (r : Option Value × ri_S) (k : Nat), ri_run n d M F σ = some r → ri_run (n + k) d M F σ = some r := by
  intro n
  induction n with
  | zero => intro d M F σ r k h; cases h
  | succ n ih =>
    intro d M F σ r k h
    rw [Nat.add_right_comm]
    unfold ri_run at h ⊢
    split at h
    · cases h
    · rename_i x hx
      try rw [hx]
      try dsimp only
      split at h
      · rename_i v hv
        try rw [hv]
        exact h
      · rename_i hv
        try rw [hv]
        try dsimp only
        split at h
        · rename_i M' as rr hc
          try rw [hc]
          try dsimp only
          split at h
          · rename_i d' hb
            try rw [hb]
            try dsimp only
            split at h
            · cases h
            · rename_i v σ' h1
              rw [ih _ _ _ _ _ k h1]
              try dsimp only
              exact ih _ _ _ _ _ k h
          · cases h
        · rename_i hc
          try rw [hc]
          try dsimp only
          split at h
          · rename_i st' σ' h1
            try rw [h1]
            try dsimp only
            split at h
            · cases h
            · exact ih _ _ _ _ _ k h
          · rename_i h1
            try rw [h1]
            try dsimp only
            split at h
            · rename_i F' h2
              try rw [h2]
              exact ih _ _ _ _ _ k h
            · rename_i h2
              try rw [h2]
              try dsimp only
              split at h
              · rename_i st' σ' h3
                try rw [h3]
                exact ih _ _ _ _ _ k h
              · cases h
def ev_W (d : Nat) (M : ri_M) (F : ri_F) (σ : ri_S) (Q : Option Value → ri_S → Prop) : Prop := ∃ (n : Nat) (v : Option Value) (σ' : ri_S), ri_run n d M F σ = some (v, σ') ∧ Q v σ'
section EVW
variable {d : Nat} {M : ri_M} {pc : Nat} {L : List (Option Value)} {st : List Value} {σ : ri_S} {Q : Option Value → ri_S → Prop} {x : Instr × Nat × Nat × Int32}
theorem ev_W.mono {F : ri_F} {Q' : Option Value → ri_S → Prop} (h : ev_W d M F σ Q) (k : ∀ v σ', Q v σ' → Q' v σ') : ev_W d M F σ Q' := by
  obtain ⟨n, v, σ', h1, h2⟩ := h
  exact ⟨n, v, σ', h1, k v σ' h2⟩
/-- a return -/
theorem ev_rt {v : Option Value} (hf : ri_find pc M.2.2.2.2.2 = some x) (h : ri_rt M x.1 st = some v) (k : Q v σ) : ev_W d M (pc, L, st) σ Q := by
  refine ⟨1, v, σ, ?_, k⟩
  unfold ri_run
  dsimp only
  rw [hf]
  dsimp only
  rw [h]
/-- a step without cells -/
theorem ev_px {F' : ri_F} (hf : ri_find pc M.2.2.2.2.2 = some x) (h1 : ri_rt M x.1 st = none) (h2 : ri_cl M x.1 st σ = none) (h3 : ri_lf M x.1 st σ = none) (h : ri_px M.1 x L st = some F') (k : ev_W d M F' σ Q) : ev_W d M (pc, L, st) σ Q := by
  obtain ⟨n, v, σ', g1, g2⟩ := k
  refine ⟨n + 1, v, σ', ?_, g2⟩
  unfold ri_run
  dsimp only
  rw [hf]
  dsimp only
  rw [h1]
  dsimp only
  rw [h2]
  dsimp only
  rw [h3]
  dsimp only
  rw [h]
  exact g1
/-- a branch -/
theorem ev_br {P : Prop} [hP : Decidable P] {a b : Nat} {L' : List (Option Value)} {st' : List Value} (hf : ri_find pc M.2.2.2.2.2 = some x) (h1 : ri_rt M x.1 st = none) (h2 : ri_cl M x.1 st σ = none) (h3 : ri_lf M x.1 st σ = none) (h : ri_px M.1 x L st = some (if P then a else b, L', st')) (kt : P → ev_W d M (a, L', st') σ Q) (kf : ¬ P → ev_W d M (b, L', st') σ Q) : ev_W d M (pc, L, st) σ Q := by
  refine ev_px hf h1 h2 h3 h ?_
  by_cases q : P
  · rw [if_pos q]; exact kt q
  · rw [if_neg q]; exact kf q
/-- a step with cells -/
theorem ev_hx {st' : List Value} {σ' : ri_S} (hf : ri_find pc M.2.2.2.2.2 = some x) (h1 : ri_rt M x.1 st = none) (h2 : ri_cl M x.1 st σ = none) (h3 : ri_lf M x.1 st σ = none) (h4 : ri_px M.1 x L st = none) (h : ri_hx M x.1 st σ = some (st', σ')) (k : ev_W d M (x.2.1, L, st') σ' Q) : ev_W d M (pc, L, st) σ Q := by
  obtain ⟨n, v, σ1, g1, g2⟩ := k
  refine ⟨n + 1, v, σ1, ?_, g2⟩
  unfold ri_run
  dsimp only
  rw [hf]
  dsimp only
  rw [h1]
  dsimp only
  rw [h2]
  dsimp only
  rw [h3]
  dsimp only
  rw [h4]
  dsimp only
  rw [h]
  exact g1
/-- Object's constructor -/
theorem ev_lf {st' : List Value} {σ' : ri_S} (hf : ri_find pc M.2.2.2.2.2 = some x) (h1 : ri_rt M x.1 st = none) (h2 : ri_cl M x.1 st σ = none) (h : ri_lf M x.1 st σ = some (st', σ')) (k : ev_W (d + 1) M (x.2.1, L, st') σ' Q) : ev_W (d + 1) M (pc, L, st) σ Q := by
  obtain ⟨n, v, σ1, g1, g2⟩ := k
  refine ⟨n + 1, v, σ1, ?_, g2⟩
  unfold ri_run
  dsimp only
  rw [hf]
  dsimp only
  rw [h1]
  dsimp only
  rw [h2]
  dsimp only
  rw [h]
  exact g1
/-- a call -/
theorem ev_cl {M' : ri_M} {as r : List Value} (hf : ri_find pc M.2.2.2.2.2 = some x) (h1 : ri_rt M x.1 st = none) (h : ri_cl M x.1 st σ = some (M', as, r)) (hb : Nat.ble (ri_ent as).length M'.2.2.2.1 = true) (k : ev_W d M' (0, ri_loc M'.2.2.2.1 as, []) σ (fun v σ' => ev_W (d + 1) M (x.2.1, L, v.toList ++ r) σ' Q)) : ev_W (d + 1) M (pc, L, st) σ Q := by
  obtain ⟨n, v, σ1, g1, n2, v2, σ2, g2, g3⟩ := k
  refine ⟨n + n2 + 1, v2, σ2, ?_, g3⟩
  unfold ri_run
  dsimp only
  rw [hf]
  dsimp only
  rw [h1]
  dsimp only
  rw [h]
  dsimp only
  rw [hb]
  dsimp only
  rw [ri_more _ _ _ _ _ _ n2 g1]
  dsimp only
  rw [Nat.add_comm n n2]
  exact ri_more _ _ _ _ _ _ n g2
end EVW
end
section
/-! Steps with cells, by what the cells are. -/
section EVH
variable {d : Nat} {M : ri_M} {pc np tg : Nat} {kv : Int32} {L : List (Option Value)} {r : List Value} {σ : ri_S} {Q : Option Value → ri_S → Prop}
theorem ev_get {k cj j fl a : Nat} {ty : FieldType} {fs : List Value} {v : Value} (hf : ri_find pc M.2.2.2.2.2 = some (.getfield k, np, tg, kv)) (ht : rt_f M.1 k = some (cj, j, ty, fl)) (ha : σ.1 a = some (.inr (cj, fs))) (hv : fs[j]? = some v) (kk : ev_W d M (np, L, v :: r) σ Q) : ev_W d M (pc, L, .ref a :: r) σ Q := by
  refine ev_hx hf rfl rfl rfl rfl ?_ kk
  show ri_hx M (.getfield k) _ _ = _
  simp only [ri_hx, ht, ha, hv, if_true]
theorem ev_put {k cj j a : Nat} {ty : FieldType} {fs : List Value} {v : Value} (hf : ri_find pc M.2.2.2.2.2 = some (.putfield k, np, tg, kv)) (ht : rt_f M.1 k = some (cj, j, ty, 0)) (ha : σ.1 a = some (.inr (cj, fs))) (hn : narrow ty v = v) (hfi : fits ty v = true) (hj : Nat.blt j fs.length = true) (kk : ev_W d M (np, L, r) (ri_up σ.1 a (.inr (cj, fs.set j v)), σ.2) Q) : ev_W d M (pc, L, v :: .ref a :: r) σ Q := by
  refine ev_hx hf rfl rfl rfl rfl ?_ kk
  show ri_hx M (.putfield k) _ _ = _
  simp only [ri_hx, ht, ha]
  rw [if_pos ⟨trivial, hn, hfi, Nat.le_of_ble_eq_true hj, Or.inl trivial⟩]
theorem ev_putF {k cj j a : Nat} {ty : FieldType} {fs : List Value} {v : Value} (hf : ri_find pc M.2.2.2.2.2 = some (.putfield k, np, tg, kv)) (ht : rt_f M.1 k = some (cj, j, ty, 1)) (hi : M.2.1.name = "<init>") (ha : σ.1 a = some (.inr (cj, fs))) (hn : narrow ty v = v) (hfi : fits ty v = true) (hj : Nat.blt j fs.length = true) (kk : ev_W d M (np, L, r) (ri_up σ.1 a (.inr (cj, fs.set j v)), σ.2) Q) : ev_W d M (pc, L, v :: .ref a :: r) σ Q := by
  refine ev_hx hf rfl rfl rfl rfl ?_ kk
  show ri_hx M (.putfield k) _ _ = _
  simp only [ri_hx, ht, ha]
  rw [if_pos ⟨trivial, hn, hfi, Nat.le_of_ble_eq_true hj, Or.inr ⟨trivial, hi⟩⟩]
theorem ev_iald {a n : Nat} {j : Int32} {ea : ri_E} {f : Nat → Int32} (hf : ri_find pc M.2.2.2.2.2 = some (.iaload, np, tg, kv)) (ha : σ.1 a = some ea) (he : ri_ai ea = some (n, f)) (hj : ¬ (j < 0 ∨ n ≤ j.toNatClampNeg)) (kk : ev_W d M (np, L, .int (f j.toNatClampNeg) :: r) σ Q) : ev_W d M (pc, L, .int j :: .ref a :: r) σ Q := by
  refine ev_hx hf rfl rfl rfl rfl ?_ kk
  show ri_hx M .iaload _ _ = _
  simp only [ri_hx, ha, he]
  rw [if_neg hj]
theorem ev_lald {a n : Nat} {j : Int32} {f : Nat → Int64} (hf : ri_find pc M.2.2.2.2.2 = some (.laload, np, tg, kv)) (ha : σ.1 a = some (.inl (.long, n, .inr (.inl f)))) (hj : ¬ (j < 0 ∨ n ≤ j.toNatClampNeg)) (kk : ev_W d M (np, L, .long (f j.toNatClampNeg) :: r) σ Q) : ev_W d M (pc, L, .int j :: .ref a :: r) σ Q := by
  refine ev_hx hf rfl rfl rfl rfl ?_ kk
  show ri_hx M .laload _ _ = _
  simp only [ri_hx, ha]
  rw [if_neg hj]
theorem ev_aald {a n : Nat} {j : Int32} {f : Nat → Option Nat} (hf : ri_find pc M.2.2.2.2.2 = some (.aaload, np, tg, kv)) (ha : σ.1 a = some (.inl (.array .int, n, .inr (.inr (.inr (.inr f)))))) (hj : ¬ (j < 0 ∨ n ≤ j.toNatClampNeg)) (kk : ev_W d M (np, L, va_rf (f j.toNatClampNeg) :: r) σ Q) : ev_W d M (pc, L, .int j :: .ref a :: r) σ Q := by
  refine ev_hx hf rfl rfl rfl rfl ?_ kk
  show ri_hx M .aaload _ _ = _
  simp only [ri_hx, ha]
  rw [if_neg hj]
theorem ev_iast {a n : Nat} {j x : Int32} {f : Nat → Int32} (hf : ri_find pc M.2.2.2.2.2 = some (.iastore, np, tg, kv)) (ha : σ.1 a = some (.inl (.int, n, .inl f))) (hj : ¬ (j < 0 ∨ n ≤ j.toNatClampNeg)) (kk : ev_W d M (np, L, r) (ri_up σ.1 a (.inl (.int, n, .inl (upd f j.toNatClampNeg x))), σ.2) Q) : ev_W d M (pc, L, .int x :: .int j :: .ref a :: r) σ Q := by
  refine ev_hx hf rfl rfl rfl rfl ?_ kk
  show ri_hx M .iastore _ _ = _
  simp only [ri_hx, ha]
  rw [if_neg hj]
theorem ev_last {a n : Nat} {j : Int32} {x : Int64} {f : Nat → Int64} (hf : ri_find pc M.2.2.2.2.2 = some (.lastore, np, tg, kv)) (ha : σ.1 a = some (.inl (.long, n, .inr (.inl f)))) (hj : ¬ (j < 0 ∨ n ≤ j.toNatClampNeg)) (kk : ev_W d M (np, L, r) (ri_up σ.1 a (.inl (.long, n, .inr (.inl (vp_updL f j.toNatClampNeg x)))), σ.2) Q) : ev_W d M (pc, L, .long x :: .int j :: .ref a :: r) σ Q := by
  refine ev_hx hf rfl rfl rfl rfl ?_ kk
  show ri_hx M .lastore _ _ = _
  simp only [ri_hx, ha]
  rw [if_neg hj]
theorem ev_alen {a n : Nat} {ea : ri_E} {f : Nat → Int32} (hf : ri_find pc M.2.2.2.2.2 = some (.arraylength, np, tg, kv)) (ha : σ.1 a = some ea) (he : ri_ai ea = some (n, f)) (kk : ev_W d M (np, L, .int (nI n) :: r) σ Q) : ev_W d M (pc, L, .ref a :: r) σ Q := by
  refine ev_hx hf rfl rfl rfl rfl ?_ kk
  show ri_hx M .arraylength _ _ = _
  simp only [ri_hx, ha, he]
theorem ev_newi {n : Int32} {N : Nat} (hf : ri_find pc M.2.2.2.2.2 = some (.newarray .int, np, tg, kv)) (hn : ¬ n < 0) (hN : n.toNatClampNeg = N) (hb : N ≤ 67108864) (kk : ev_W d M (np, L, .ref σ.2.1 :: r) (ri_up σ.1 σ.2.1 (.inl (.int, N, .inl fun _ => 0)), σ.2.1 + 1, σ.2.2 + N) Q) : ev_W d M (pc, L, .int n :: r) σ Q := by
  subst hN
  refine ev_hx hf rfl rfl rfl rfl ?_ kk
  show ri_hx M (.newarray .int) _ _ = _
  simp only [ri_hx]
  rw [if_neg (by rintro (q | q); exact hn q; omega)]
theorem ev_newl {n : Int32} {N : Nat} (hf : ri_find pc M.2.2.2.2.2 = some (.newarray .long, np, tg, kv)) (hn : ¬ n < 0) (hN : n.toNatClampNeg = N) (hb : N ≤ 67108864) (kk : ev_W d M (np, L, .ref σ.2.1 :: r) (ri_up σ.1 σ.2.1 (.inl (.long, N, .inr (.inl fun _ => 0))), σ.2.1 + 1, σ.2.2 + N) Q) : ev_W d M (pc, L, .int n :: r) σ Q := by
  subst hN
  refine ev_hx hf rfl rfl rfl rfl ?_ kk
  show ri_hx M (.newarray .long) _ _ = _
  simp only [ri_hx]
  rw [if_neg (by rintro (q | q); exact hn q; omega)]
theorem ev_new {k cj : Nat} {fs : List Value} (hf : ri_find pc M.2.2.2.2.2 = some (.new k, np, tg, kv)) (ht : rt_n M.1 k = some (cj, fs)) (kk : ev_W d M (np, L, .ref σ.2.1 :: r) (ri_up σ.1 σ.2.1 (.inr (cj, fs)), σ.2.1 + 1, σ.2.2 + fs.length) Q) : ev_W d M (pc, L, r) σ Q := by
  refine ev_hx hf rfl rfl rfl rfl ?_ kk
  show ri_hx M (.new k) _ _ = _
  simp only [ri_hx, ht]
end EVH
/-! Many steps at once. -/
/-- instructions that go straight on without cells -/
def ri_str : Instr → Bool
  | .iconst _ | .bipush _ | .sipush _ | .lconst _ | .ldc _ | .ldc2_w _ | .aconst_null => true
  | .iload _ | .iload_n _ | .lload _ | .lload_n _ | .aload _ | .aload_n _ => true
  | .istore _ | .istore_n _ | .lstore _ | .lstore_n _ | .astore _ | .astore_n _ => true
  | .iinc _ _ | .iadd | .isub | .imul | .iand | .ior | .ishl | .ishr | .iushr | .land | .lor | .lshl | .lushr | .lcmp | .i2l | .l2i => true
  | .dup | .pop | .dup_x1 | .dup_x2 | .dup2 | .goto _ => true
  | _ => false
theorem ri_str_no {i : Instr} (h : ri_str i = true) (M : ri_M) (st : List Value) (σ : ri_S) : ri_rt M i st = none ∧ ri_cl M i st σ = none ∧ ri_lf M i st σ = none := by
  cases i <;> first | exact ⟨rfl, rfl, rfl⟩ | (cases h; done)
def ri_go : Nat → ri_M → ri_F → ri_F
  | 0, _, F => F
  | n + 1, M, F => match ri_find F.1 M.2.2.2.2.2 with
    | some x => match ri_str x.1 with
      | true => match ri_px M.1 x F.2.1 F.2.2 with
        | some F' => ri_go n M F'
        | none => F
      | false => F
    | none => F
theorem ev_go {d : Nat} {M : ri_M} {σ : ri_S} {Q : Option Value → ri_S → Prop} : ∀ (n : Nat) {F F' : ri_F}, ri_go n M F = F' → ev_W d M F' σ Q → ev_W d M F σ Q := by
  intro n
  induction n with
  | zero => intro F F' h k; rw [show F = F' from h]; exact k
  | succ n ih =>
    intro F F' h k
    unfold ri_go at h
    split at h
    · rename_i x hx
      split at h
      · rename_i hs
        split at h
        · rename_i F1 h1
          obtain ⟨g1, g2, g3⟩ := ri_str_no hs M F.2.2 σ
          exact ev_px hx g1 g2 g3 h1 (ih h k)
        · rw [h]; exact k
      · rw [h]; exact k
    · rw [h]; exact k
section EVC
variable {d : Nat} {M : ri_M} {pc np tg : Nat} {kv : Int32} {L : List (Option Value)} {st r : List Value} {σ : ri_S} {Q : Option Value → ri_S → Prop}
/-- a virtual call -/
theorem ev_clV {M' : ri_M} {k n b : Nat} {fs : List Value} (hf : ri_find pc M.2.2.2.2.2 = some (.invokevirtual k, np, tg, kv)) (ht : rt_c M.1 k = some (0, M', n)) (hd : st.drop n = .ref b :: r) (hb : σ.1 b = some (.inr (M'.1, fs))) (h1 : Nat.beq (st.take n).length n = true) (h2 : Nat.ble (r.map fun v => v.category).sum 8 = true) (h3 : Nat.ble (ri_ent (.ref b :: (st.take n).reverse)).length M'.2.2.2.1 = true)
    (kk : ev_W d M' (0, ri_loc M'.2.2.2.1 (.ref b :: (st.take n).reverse), []) σ (fun v σ' => ev_W (d + 1) M (np, L, v.toList ++ r) σ' Q)) : ev_W (d + 1) M (pc, L, st) σ Q := by
  refine ev_cl hf rfl ?_ h3 kk
  show ri_cl M (.invokevirtual k) _ _ = _
  simp only [ri_cl, ht, hd, hb]
  rw [if_pos ⟨trivial, Nat.eq_of_beq_eq_true h1, Nat.le_of_ble_eq_true h2⟩]
/-- Math.max, Math.min -/
theorem ev_max {k : Nat} {x y : Int32} (hf : ri_find pc M.2.2.2.2.2 = some (.invokestatic k, np, tg, kv)) (h0 : ri_cl M (.invokestatic k) (.int y :: .int x :: r) σ = none) (ho : rt_o M.1 k = 2) (h2 : Nat.ble (r.map fun v => v.category).sum 8 = true) (kk : ev_W (d + 1) M (np, L, .int (if x < y then y else x) :: r) σ Q) : ev_W (d + 1) M (pc, L, .int y :: .int x :: r) σ Q := by
  refine ev_lf hf rfl h0 ?_ kk
  show ri_lf M (.invokestatic k) _ _ = _
  simp only [ri_lf, ho]
  rw [if_pos (Nat.le_of_ble_eq_true h2)]
theorem ev_min {k : Nat} {x y : Int32} (hf : ri_find pc M.2.2.2.2.2 = some (.invokestatic k, np, tg, kv)) (h0 : ri_cl M (.invokestatic k) (.int y :: .int x :: r) σ = none) (ho : rt_o M.1 k = 3) (h2 : Nat.ble (r.map fun v => v.category).sum 8 = true) (kk : ev_W (d + 1) M (np, L, .int (if y < x then y else x) :: r) σ Q) : ev_W (d + 1) M (pc, L, .int y :: .int x :: r) σ Q := by
  refine ev_lf hf rfl h0 ?_ kk
  show ri_lf M (.invokestatic k) _ _ = _
  simp only [ri_lf, ho]
  rw [if_pos (Nat.le_of_ble_eq_true h2)]
/-- System.arraycopy -/
theorem ev_cpy {k a a0 n0 n1 : Nat} {n dp sp : Int32} {f g : Nat → Int32} (hf : ri_find pc M.2.2.2.2.2 = some (.invokestatic k, np, tg, kv)) (h0 : ri_cl M (.invokestatic k) (.int n :: .int dp :: .ref a :: .int sp :: .ref a0 :: r) σ = none) (ho : rt_o M.1 k = 4) (ha0 : σ.1 a0 = some (.inl (.int, n0, .inl f))) (ha : σ.1 a = some (.inl (.int, n1, .inl g))) (h1 : ¬ sp < 0 ∧ ¬ dp < 0 ∧ ¬ n < 0) (h4 : sp.toNatClampNeg + n.toNatClampNeg ≤ n0) (h5 : dp.toNatClampNeg + n.toNatClampNeg ≤ n1) (h2 : Nat.ble (r.map fun v => v.category).sum 8 = true)
    (kk : ev_W (d + 1) M (np, L, r) (ri_up σ.1 a (.inl (.int, n1, .inl (va_cpy f g sp.toNatClampNeg dp.toNatClampNeg n.toNatClampNeg))), σ.2) Q) : ev_W (d + 1) M (pc, L, .int n :: .int dp :: .ref a :: .int sp :: .ref a0 :: r) σ Q := by
  refine ev_lf hf rfl h0 ?_ kk
  show ri_lf M (.invokestatic k) _ _ = _
  simp only [ri_lf, ho, ha0, ha]
  rw [if_pos ⟨h1, h4, h5, Nat.le_of_ble_eq_true h2⟩]
end EVC
section EVG
variable {d : Nat} {M : ri_M} {pc np tg : Nat} {kv : Int32} {L : List (Option Value)} {r : List Value} {σ : ri_S} {Q : Option Value → ri_S → Prop}
theorem ev_bald {a n : Nat} {j : Int32} {f : Nat → Int32} (hf : ri_find pc M.2.2.2.2.2 = some (.baload, np, tg, kv)) (ha : σ.1 a = some (.inl (.boolean, n, .inl f))) (hj : ¬ (j < 0 ∨ n ≤ j.toNatClampNeg)) (kk : ev_W d M (np, L, .int (f j.toNatClampNeg) :: r) σ Q) : ev_W d M (pc, L, .int j :: .ref a :: r) σ Q := by
  refine ev_hx hf rfl rfl rfl rfl ?_ kk
  show ri_hx M .baload _ _ = _
  simp only [ri_hx, ha]
  rw [if_neg hj]
theorem ev_bast {a n : Nat} {j x : Int32} {f : Nat → Int32} (hf : ri_find pc M.2.2.2.2.2 = some (.bastore, np, tg, kv)) (ha : σ.1 a = some (.inl (.boolean, n, .inl f))) (hj : ¬ (j < 0 ∨ n ≤ j.toNatClampNeg)) (kk : ev_W d M (np, L, r) (ri_up σ.1 a (.inl (.boolean, n, .inl (upd f j.toNatClampNeg (vp_nar .boolean x)))), σ.2) Q) : ev_W d M (pc, L, .int x :: .int j :: .ref a :: r) σ Q := by
  refine ev_hx hf rfl rfl rfl rfl ?_ kk
  show ri_hx M .bastore _ _ = _
  simp only [ri_hx, ha]
  rw [if_neg hj]
theorem ev_aast {a n v n2 : Nat} {j : Int32} {f : Nat → Option Nat} {f2 : Nat → Int32} (hf : ri_find pc M.2.2.2.2.2 = some (.aastore, np, tg, kv)) (ha : σ.1 a = some (.inl (.array .int, n, .inr (.inr (.inr (.inr f)))))) (hv : σ.1 v = some (.inl (.int, n2, .inl f2))) (hj : ¬ (j < 0 ∨ n ≤ j.toNatClampNeg)) (kk : ev_W d M (np, L, r) (ri_up σ.1 a (.inl (.array .int, n, .inr (.inr (.inr (.inr (va_up f j.toNatClampNeg (some v))))))), σ.2) Q) : ev_W d M (pc, L, .ref v :: .int j :: .ref a :: r) σ Q := by
  refine ev_hx hf rfl rfl rfl rfl ?_ kk
  show ri_hx M .aastore _ _ = _
  simp only [ri_hx, ha, hv]
  rw [if_neg hj]
theorem ev_newz {n : Int32} {N : Nat} (hf : ri_find pc M.2.2.2.2.2 = some (.newarray .boolean, np, tg, kv)) (hn : ¬ n < 0) (hN : n.toNatClampNeg = N) (hb : N ≤ 67108864) (kk : ev_W d M (np, L, .ref σ.2.1 :: r) (ri_up σ.1 σ.2.1 (.inl (.boolean, N, .inl fun _ => 0)), σ.2.1 + 1, σ.2.2 + N) Q) : ev_W d M (pc, L, .int n :: r) σ Q := by
  subst hN
  refine ev_hx hf rfl rfl rfl rfl ?_ kk
  show ri_hx M (.newarray .boolean) _ _ = _
  simp only [ri_hx]
  rw [if_neg (by rintro (q | q); exact hn q; omega)]
theorem ev_grid {k : Nat} {m n : Int32} {N K : Nat} (hf : ri_find pc M.2.2.2.2.2 = some (.multianewarray k 2, np, tg, kv)) (hm : rt_m M.1 k = true) (hn : ¬ n < 0) (hm0 : ¬ m < 0) (hN : n.toNatClampNeg = N) (hK : m.toNatClampNeg = K) (hb : N ≤ 67108864) (hb2 : K ≤ 67108864) (kk : ev_W d M (np, L, .ref σ.2.1 :: r) (ri_grid σ.1 σ.2.1 N K, σ.2.1 + 1 + N, σ.2.2 + N + N * K) Q) : ev_W d M (pc, L, .int m :: .int n :: r) σ Q := by
  subst hN
  subst hK
  refine ev_hx hf rfl rfl rfl rfl ?_ kk
  show ri_hx M (.multianewarray k 2) _ _ = _
  simp only [ri_hx, hm]
  rw [if_neg (by rintro (q | q | q | q); exact hn q; exact hm0 q; omega; omega)]
end EVG
end
section
/-! ROWS BEHIND A STRAIGHT STRETCH (written by gen13.py): each begins with the steps that go on without cells. -/
section GEV
variable {d : Nat} {M : ri_M} {F : ri_F} {pc np tg : Nat} {kv : Int32} {L : List (Option Value)} {st r : List Value} {σ : ri_S} {Q : Option Value → ri_S → Prop} {x : Instr × Nat × Nat × Int32}
theorem g_rt {v : Option Value} (hgo : ri_go 99 M F = (pc, L, st)) (hf : ri_find pc M.2.2.2.2.2 = some x) (h : ri_rt M x.1 st = some v) (k : Q v σ) : ev_W d M F σ Q := ev_go 99 hgo (ev_rt hf h k)
theorem g_px {F' : ri_F} (hgo : ri_go 99 M F = (pc, L, st)) (hf : ri_find pc M.2.2.2.2.2 = some x) (h1 : ri_rt M x.1 st = none) (h2 : ri_cl M x.1 st σ = none) (h3 : ri_lf M x.1 st σ = none) (h : ri_px M.1 x L st = some F') (k : ev_W d M F' σ Q) : ev_W d M F σ Q := ev_go 99 hgo (ev_px hf h1 h2 h3 h k)
theorem g_br {P : Prop} [hP : Decidable P] {a b : Nat} {L' : List (Option Value)} {st' : List Value} (hgo : ri_go 99 M F = (pc, L, st)) (hf : ri_find pc M.2.2.2.2.2 = some x) (h1 : ri_rt M x.1 st = none) (h2 : ri_cl M x.1 st σ = none) (h3 : ri_lf M x.1 st σ = none) (h : ri_px M.1 x L st = some (if P then a else b, L', st')) (kt : P → ev_W d M (a, L', st') σ Q) (kf : ¬ P → ev_W d M (b, L', st') σ Q) : ev_W d M F σ Q := ev_go 99 hgo (ev_br hf h1 h2 h3 h kt kf)
theorem g_hx {st' : List Value} {σ' : ri_S} (hgo : ri_go 99 M F = (pc, L, st)) (hf : ri_find pc M.2.2.2.2.2 = some x) (h1 : ri_rt M x.1 st = none) (h2 : ri_cl M x.1 st σ = none) (h3 : ri_lf M x.1 st σ = none) (h4 : ri_px M.1 x L st = none) (h : ri_hx M x.1 st σ = some (st', σ')) (k : ev_W d M (x.2.1, L, st') σ' Q) : ev_W d M F σ Q := ev_go 99 hgo (ev_hx hf h1 h2 h3 h4 h k)
theorem g_lf {st' : List Value} {σ' : ri_S} (hgo : ri_go 99 M F = (pc, L, st)) (hf : ri_find pc M.2.2.2.2.2 = some x) (h1 : ri_rt M x.1 st = none) (h2 : ri_cl M x.1 st σ = none) (h : ri_lf M x.1 st σ = some (st', σ')) (k : ev_W (d + 1) M (x.2.1, L, st') σ' Q) : ev_W (d + 1) M F σ Q := ev_go 99 hgo (ev_lf hf h1 h2 h k)
theorem g_cl {M' : ri_M} {as r : List Value} (hgo : ri_go 99 M F = (pc, L, st)) (hf : ri_find pc M.2.2.2.2.2 = some x) (h1 : ri_rt M x.1 st = none) (h : ri_cl M x.1 st σ = some (M', as, r)) (hb : Nat.ble (ri_ent as).length M'.2.2.2.1 = true) (k : ev_W d M' (0, ri_loc M'.2.2.2.1 as, []) σ (fun v σ' => ev_W (d + 1) M (x.2.1, L, v.toList ++ r) σ' Q)) : ev_W (d + 1) M F σ Q := ev_go 99 hgo (ev_cl hf h1 h hb k)
theorem g_get {k cj j fl a : Nat} {ty : FieldType} {fs : List Value} {v : Value} (hgo : ri_go 99 M F = (pc, L, .ref a :: r)) (hf : ri_find pc M.2.2.2.2.2 = some (.getfield k, np, tg, kv)) (ht : rt_f M.1 k = some (cj, j, ty, fl)) (ha : σ.1 a = some (.inr (cj, fs))) (hv : fs[j]? = some v) (kk : ev_W d M (np, L, v :: r) σ Q) : ev_W d M F σ Q := ev_go 99 hgo (ev_get hf ht ha hv kk)
theorem g_put {k cj j a : Nat} {ty : FieldType} {fs : List Value} {v : Value} (hgo : ri_go 99 M F = (pc, L, v :: .ref a :: r)) (hf : ri_find pc M.2.2.2.2.2 = some (.putfield k, np, tg, kv)) (ht : rt_f M.1 k = some (cj, j, ty, 0)) (ha : σ.1 a = some (.inr (cj, fs))) (hn : narrow ty v = v) (hfi : fits ty v = true) (hj : Nat.blt j fs.length = true) (kk : ev_W d M (np, L, r) (ri_up σ.1 a (.inr (cj, fs.set j v)), σ.2) Q) : ev_W d M F σ Q := ev_go 99 hgo (ev_put hf ht ha hn hfi hj kk)
theorem g_putF {k cj j a : Nat} {ty : FieldType} {fs : List Value} {v : Value} (hgo : ri_go 99 M F = (pc, L, v :: .ref a :: r)) (hf : ri_find pc M.2.2.2.2.2 = some (.putfield k, np, tg, kv)) (ht : rt_f M.1 k = some (cj, j, ty, 1)) (hi : M.2.1.name = "<init>") (ha : σ.1 a = some (.inr (cj, fs))) (hn : narrow ty v = v) (hfi : fits ty v = true) (hj : Nat.blt j fs.length = true) (kk : ev_W d M (np, L, r) (ri_up σ.1 a (.inr (cj, fs.set j v)), σ.2) Q) : ev_W d M F σ Q := ev_go 99 hgo (ev_putF hf ht hi ha hn hfi hj kk)
theorem g_iald {a n : Nat} {j : Int32} {ea : ri_E} {f : Nat → Int32} (hgo : ri_go 99 M F = (pc, L, .int j :: .ref a :: r)) (hf : ri_find pc M.2.2.2.2.2 = some (.iaload, np, tg, kv)) (ha : σ.1 a = some ea) (he : ri_ai ea = some (n, f)) (hj : ¬ (j < 0 ∨ n ≤ j.toNatClampNeg)) (kk : ev_W d M (np, L, .int (f j.toNatClampNeg) :: r) σ Q) : ev_W d M F σ Q := ev_go 99 hgo (ev_iald hf ha he hj kk)
theorem g_lald {a n : Nat} {j : Int32} {f : Nat → Int64} (hgo : ri_go 99 M F = (pc, L, .int j :: .ref a :: r)) (hf : ri_find pc M.2.2.2.2.2 = some (.laload, np, tg, kv)) (ha : σ.1 a = some (.inl (.long, n, .inr (.inl f)))) (hj : ¬ (j < 0 ∨ n ≤ j.toNatClampNeg)) (kk : ev_W d M (np, L, .long (f j.toNatClampNeg) :: r) σ Q) : ev_W d M F σ Q := ev_go 99 hgo (ev_lald hf ha hj kk)
theorem g_aald {a n : Nat} {j : Int32} {f : Nat → Option Nat} (hgo : ri_go 99 M F = (pc, L, .int j :: .ref a :: r)) (hf : ri_find pc M.2.2.2.2.2 = some (.aaload, np, tg, kv)) (ha : σ.1 a = some (.inl (.array .int, n, .inr (.inr (.inr (.inr f)))))) (hj : ¬ (j < 0 ∨ n ≤ j.toNatClampNeg)) (kk : ev_W d M (np, L, va_rf (f j.toNatClampNeg) :: r) σ Q) : ev_W d M F σ Q := ev_go 99 hgo (ev_aald hf ha hj kk)
theorem g_iast {a n : Nat} {j x : Int32} {f : Nat → Int32} (hgo : ri_go 99 M F = (pc, L, .int x :: .int j :: .ref a :: r)) (hf : ri_find pc M.2.2.2.2.2 = some (.iastore, np, tg, kv)) (ha : σ.1 a = some (.inl (.int, n, .inl f))) (hj : ¬ (j < 0 ∨ n ≤ j.toNatClampNeg)) (kk : ev_W d M (np, L, r) (ri_up σ.1 a (.inl (.int, n, .inl (upd f j.toNatClampNeg x))), σ.2) Q) : ev_W d M F σ Q := ev_go 99 hgo (ev_iast hf ha hj kk)
theorem g_last {a n : Nat} {j : Int32} {x : Int64} {f : Nat → Int64} (hgo : ri_go 99 M F = (pc, L, .long x :: .int j :: .ref a :: r)) (hf : ri_find pc M.2.2.2.2.2 = some (.lastore, np, tg, kv)) (ha : σ.1 a = some (.inl (.long, n, .inr (.inl f)))) (hj : ¬ (j < 0 ∨ n ≤ j.toNatClampNeg)) (kk : ev_W d M (np, L, r) (ri_up σ.1 a (.inl (.long, n, .inr (.inl (vp_updL f j.toNatClampNeg x)))), σ.2) Q) : ev_W d M F σ Q := ev_go 99 hgo (ev_last hf ha hj kk)
theorem g_alen {a n : Nat} {ea : ri_E} {f : Nat → Int32} (hgo : ri_go 99 M F = (pc, L, .ref a :: r)) (hf : ri_find pc M.2.2.2.2.2 = some (.arraylength, np, tg, kv)) (ha : σ.1 a = some ea) (he : ri_ai ea = some (n, f)) (kk : ev_W d M (np, L, .int (nI n) :: r) σ Q) : ev_W d M F σ Q := ev_go 99 hgo (ev_alen hf ha he kk)
theorem g_newi {n : Int32} {N : Nat} (hgo : ri_go 99 M F = (pc, L, .int n :: r)) (hf : ri_find pc M.2.2.2.2.2 = some (.newarray .int, np, tg, kv)) (hn : ¬ n < 0) (hN : n.toNatClampNeg = N) (hb : N ≤ 67108864) (kk : ev_W d M (np, L, .ref σ.2.1 :: r) (ri_up σ.1 σ.2.1 (.inl (.int, N, .inl fun _ => 0)), σ.2.1 + 1, σ.2.2 + N) Q) : ev_W d M F σ Q := ev_go 99 hgo (ev_newi hf hn hN hb kk)
theorem g_newl {n : Int32} {N : Nat} (hgo : ri_go 99 M F = (pc, L, .int n :: r)) (hf : ri_find pc M.2.2.2.2.2 = some (.newarray .long, np, tg, kv)) (hn : ¬ n < 0) (hN : n.toNatClampNeg = N) (hb : N ≤ 67108864) (kk : ev_W d M (np, L, .ref σ.2.1 :: r) (ri_up σ.1 σ.2.1 (.inl (.long, N, .inr (.inl fun _ => 0))), σ.2.1 + 1, σ.2.2 + N) Q) : ev_W d M F σ Q := ev_go 99 hgo (ev_newl hf hn hN hb kk)
theorem g_new {k cj : Nat} {fs : List Value} (hgo : ri_go 99 M F = (pc, L, r)) (hf : ri_find pc M.2.2.2.2.2 = some (.new k, np, tg, kv)) (ht : rt_n M.1 k = some (cj, fs)) (kk : ev_W d M (np, L, .ref σ.2.1 :: r) (ri_up σ.1 σ.2.1 (.inr (cj, fs)), σ.2.1 + 1, σ.2.2 + fs.length) Q) : ev_W d M F σ Q := ev_go 99 hgo (ev_new hf ht kk)
theorem g_clV {M' : ri_M} {k n b : Nat} {fs : List Value} (hgo : ri_go 99 M F = (pc, L, st)) (hf : ri_find pc M.2.2.2.2.2 = some (.invokevirtual k, np, tg, kv)) (ht : rt_c M.1 k = some (0, M', n)) (hd : st.drop n = .ref b :: r) (hb : σ.1 b = some (.inr (M'.1, fs))) (h1 : Nat.beq (st.take n).length n = true) (h2 : Nat.ble (r.map fun v => v.category).sum 8 = true) (h3 : Nat.ble (ri_ent (.ref b :: (st.take n).reverse)).length M'.2.2.2.1 = true)     (kk : ev_W d M' (0, ri_loc M'.2.2.2.1 (.ref b :: (st.take n).reverse), []) σ (fun v σ' => ev_W (d + 1) M (np, L, v.toList ++ r) σ' Q)) : ev_W (d + 1) M F σ Q := ev_go 99 hgo (ev_clV hf ht hd hb h1 h2 h3 kk)
theorem g_max {k : Nat} {x y : Int32} (hgo : ri_go 99 M F = (pc, L, .int y :: .int x :: r)) (hf : ri_find pc M.2.2.2.2.2 = some (.invokestatic k, np, tg, kv)) (h0 : ri_cl M (.invokestatic k) (.int y :: .int x :: r) σ = none) (ho : rt_o M.1 k = 2) (h2 : Nat.ble (r.map fun v => v.category).sum 8 = true) (kk : ev_W (d + 1) M (np, L, .int (if x < y then y else x) :: r) σ Q) : ev_W (d + 1) M F σ Q := ev_go 99 hgo (ev_max hf h0 ho h2 kk)
theorem g_min {k : Nat} {x y : Int32} (hgo : ri_go 99 M F = (pc, L, .int y :: .int x :: r)) (hf : ri_find pc M.2.2.2.2.2 = some (.invokestatic k, np, tg, kv)) (h0 : ri_cl M (.invokestatic k) (.int y :: .int x :: r) σ = none) (ho : rt_o M.1 k = 3) (h2 : Nat.ble (r.map fun v => v.category).sum 8 = true) (kk : ev_W (d + 1) M (np, L, .int (if y < x then y else x) :: r) σ Q) : ev_W (d + 1) M F σ Q := ev_go 99 hgo (ev_min hf h0 ho h2 kk)
theorem g_cpy {k a a0 n0 n1 : Nat} {n dp sp : Int32} {f g : Nat → Int32} (hgo : ri_go 99 M F = (pc, L, .int n :: .int dp :: .ref a :: .int sp :: .ref a0 :: r)) (hf : ri_find pc M.2.2.2.2.2 = some (.invokestatic k, np, tg, kv)) (h0 : ri_cl M (.invokestatic k) (.int n :: .int dp :: .ref a :: .int sp :: .ref a0 :: r) σ = none) (ho : rt_o M.1 k = 4) (ha0 : σ.1 a0 = some (.inl (.int, n0, .inl f))) (ha : σ.1 a = some (.inl (.int, n1, .inl g))) (h1 : ¬ sp < 0 ∧ ¬ dp < 0 ∧ ¬ n < 0) (h4 : sp.toNatClampNeg + n.toNatClampNeg ≤ n0) (h5 : dp.toNatClampNeg + n.toNatClampNeg ≤ n1) (h2 : Nat.ble (r.map fun v => v.category).sum 8 = true)     (kk : ev_W (d + 1) M (np, L, r) (ri_up σ.1 a (.inl (.int, n1, .inl (va_cpy f g sp.toNatClampNeg dp.toNatClampNeg n.toNatClampNeg))), σ.2) Q) : ev_W (d + 1) M F σ Q := ev_go 99 hgo (ev_cpy hf h0 ho ha0 ha h1 h4 h5 h2 kk)
theorem g_bald {a n : Nat} {j : Int32} {f : Nat → Int32} (hgo : ri_go 99 M F = (pc, L, .int j :: .ref a :: r)) (hf : ri_find pc M.2.2.2.2.2 = some (.baload, np, tg, kv)) (ha : σ.1 a = some (.inl (.boolean, n, .inl f))) (hj : ¬ (j < 0 ∨ n ≤ j.toNatClampNeg)) (kk : ev_W d M (np, L, .int (f j.toNatClampNeg) :: r) σ Q) : ev_W d M F σ Q := ev_go 99 hgo (ev_bald hf ha hj kk)
theorem g_bast {a n : Nat} {j x : Int32} {f : Nat → Int32} (hgo : ri_go 99 M F = (pc, L, .int x :: .int j :: .ref a :: r)) (hf : ri_find pc M.2.2.2.2.2 = some (.bastore, np, tg, kv)) (ha : σ.1 a = some (.inl (.boolean, n, .inl f))) (hj : ¬ (j < 0 ∨ n ≤ j.toNatClampNeg)) (kk : ev_W d M (np, L, r) (ri_up σ.1 a (.inl (.boolean, n, .inl (upd f j.toNatClampNeg (vp_nar .boolean x)))), σ.2) Q) : ev_W d M F σ Q := ev_go 99 hgo (ev_bast hf ha hj kk)
theorem g_aast {a n v n2 : Nat} {j : Int32} {f : Nat → Option Nat} {f2 : Nat → Int32} (hgo : ri_go 99 M F = (pc, L, .ref v :: .int j :: .ref a :: r)) (hf : ri_find pc M.2.2.2.2.2 = some (.aastore, np, tg, kv)) (ha : σ.1 a = some (.inl (.array .int, n, .inr (.inr (.inr (.inr f)))))) (hv : σ.1 v = some (.inl (.int, n2, .inl f2))) (hj : ¬ (j < 0 ∨ n ≤ j.toNatClampNeg)) (kk : ev_W d M (np, L, r) (ri_up σ.1 a (.inl (.array .int, n, .inr (.inr (.inr (.inr (va_up f j.toNatClampNeg (some v))))))), σ.2) Q) : ev_W d M F σ Q := ev_go 99 hgo (ev_aast hf ha hv hj kk)
theorem g_newz {n : Int32} {N : Nat} (hgo : ri_go 99 M F = (pc, L, .int n :: r)) (hf : ri_find pc M.2.2.2.2.2 = some (.newarray .boolean, np, tg, kv)) (hn : ¬ n < 0) (hN : n.toNatClampNeg = N) (hb : N ≤ 67108864) (kk : ev_W d M (np, L, .ref σ.2.1 :: r) (ri_up σ.1 σ.2.1 (.inl (.boolean, N, .inl fun _ => 0)), σ.2.1 + 1, σ.2.2 + N) Q) : ev_W d M F σ Q := ev_go 99 hgo (ev_newz hf hn hN hb kk)
theorem g_grid {k : Nat} {m n : Int32} {N K : Nat} (hgo : ri_go 99 M F = (pc, L, .int m :: .int n :: r)) (hf : ri_find pc M.2.2.2.2.2 = some (.multianewarray k 2, np, tg, kv)) (hm : rt_m M.1 k = true) (hn : ¬ n < 0) (hm0 : ¬ m < 0) (hN : n.toNatClampNeg = N) (hK : m.toNatClampNeg = K) (hb : N ≤ 67108864) (hb2 : K ≤ 67108864) (kk : ev_W d M (np, L, .ref σ.2.1 :: r) (ri_grid σ.1 σ.2.1 N K, σ.2.1 + 1 + N, σ.2.2 + N + N * K) Q) : ev_W d M F σ Q := ev_go 99 hgo (ev_grid hf hm hn hm0 hN hK hb hb2 kk)
end GEV
end
section
/-! THE REFERENCE'S CELLS: its object at o, its thirteen arrays behind it, for ever. mo_P o A I: array k holds A k; the number in slot j is I j. -/
def mo_ty (k : Nat) : FieldType := match k with
  | 3 => .boolean
  | 10 => .boolean
  | _ => .int
def mo_len (k : Nat) : Nat := match k with
  | 0 => 48
  | 1 => 48
  | 2 => 48
  | 3 => 48
  | 4 => 2048
  | 5 => 2048
  | 6 => 2048
  | 7 => 129
  | 8 => 17
  | 9 => 17
  | 10 => 48
  | _ => 4096
def mo_fs (o : Nat) (I : Nat → Int32) : List Value := [.ref (o + 1), .ref (o + 2), .ref (o + 3), .ref (o + 4), .int (I 4), .int (I 5), .ref (o + 5), .ref (o + 6), .ref (o + 7), .int (I 9), .ref (o + 8), .int (I 11), .int (I 12), .int (I 13), .ref (o + 9), .ref (o + 10), .int (I 16), .int (I 17), .int (I 18), .int (I 19), .ref (o + 11), .ref (o + 12), .ref (o + 13), .int (I 23), .int (I 24)]
def mo_P (o : Nat) (A : Nat → Nat → Int32) (I : Nat → Int32) (h : Nat → Option ri_E) : Prop := h o = some (.inr (5, mo_fs o I)) ∧ ∀ k, k < 13 → h (o + 1 + k) = some (.inl (mo_ty k, mo_len k, .inl (A k)))
/-- the reference's world since σ0: nothing else has changed, nothing was made -/
def mo_W (o : Nat) (A : Nat → Nat → Int32) (I : Nat → Int32) (σ0 σ : ri_S) : Prop := mo_P o A I σ.1 ∧ (∀ a, (a < o ∨ o + 14 ≤ a) → σ.1 a = σ0.1 a) ∧ σ.2 = σ0.2
theorem mo_P.a {o : Nat} {A : Nat → Nat → Int32} {I : Nat → Int32} {h : Nat → Option ri_E} (hP : mo_P o A I h) (k : Nat) (hk : k < 13) {q : Nat} (hq : q = o + 1 + k) : h q = some (.inl (mo_ty k, mo_len k, .inl (A k))) := by
  rw [hq]; exact hP.2 k hk
/-- a number is put -/
theorem mo_W.put {o : Nat} {A : Nat → Nat → Int32} {I : Nat → Int32} {σ0 σ : ri_S} (hW : mo_W o A I σ0 σ) (j : Nat) (v : Int32) (hj : (mo_fs o I).set j (.int v) = mo_fs o (va_up I j v)) : mo_W o A (va_up I j v) σ0 (ri_up σ.1 o (.inr (5, (mo_fs o I).set j (.int v))), σ.2) := by
  obtain ⟨⟨h1, h2⟩, h3, h4⟩ := hW
  refine ⟨⟨?_, fun k hk => ?_⟩, fun a ha => ?_, h4⟩
  · show ri_up σ.1 o _ o = _
    unfold ri_up
    rw [if_pos rfl, hj]
  · show ri_up σ.1 o _ (o + 1 + k) = _
    unfold ri_up
    rw [if_neg (by omega)]
    exact h2 k hk
  · show ri_up σ.1 o _ a = _
    unfold ri_up
    rw [if_neg (by omega)]
    exact h3 a ha
/-- a place of an array is put -/
theorem mo_W.set {o : Nat} {A : Nat → Nat → Int32} {I : Nat → Int32} {σ0 σ : ri_S} (hW : mo_W o A I σ0 σ) (k : Nat) (hk : k < 13) (f : Nat → Int32) {q : Nat} (hq : q = o + 1 + k) {t : FieldType} {n : Nat} (ht : t = mo_ty k) (hn : n = mo_len k) : mo_W o (va_up A k f) I σ0 (ri_up σ.1 q (.inl (t, n, .inl f)), σ.2) := by
  obtain ⟨⟨h1, h2⟩, h3, h4⟩ := hW
  subst hq
  subst ht
  subst hn
  refine ⟨⟨?_, fun j hj => ?_⟩, fun a ha => ?_, h4⟩
  · show ri_up σ.1 _ _ o = _
    unfold ri_up
    rw [if_neg (by omega)]
    exact h1
  · show ri_up σ.1 _ _ (o + 1 + j) = _
    unfold ri_up
    by_cases e : j = k
    · subst e
      rw [if_pos rfl]
      unfold va_up
      rw [if_pos rfl]
    · rw [if_neg (by omega)]
      unfold va_up
      rw [if_neg e]
      exact h2 j hj
  · show ri_up σ.1 _ _ a = _
    unfold ri_up
    rw [if_neg (by omega)]
    exact h3 a ha
theorem mo_len_lt (k : Nat) : mo_len k < 2 ^ 31 := by
  unfold mo_len
  split <;> decide
section MO0
variable {d o : Nat} {A : Nat → Nat → Int32} {I : Nat → Int32} {σ0 σ : ri_S} {Q : Option Value → ri_S → Prop} {M : ri_M} {F : ri_F} {pc np tg : Nat} {kv : Int32} {L : List (Option Value)} {r : List Value}
/-- reads and writes of the reference's arrays, and of its numbers -/
theorem mo_ald (hP : mo_P o A I σ.1) (k : Nat) {i a : Nat} {j : Int32} (hgo : ri_go 99 M F = (pc, L, .int j :: .ref a :: r)) (hf : ri_find pc M.2.2.2.2.2 = some (.iaload, np, tg, kv)) (ha : a = o + 1 + k) (hj : j = nI i) (hi : i < mo_len k) (hk : k < 13) (ht : mo_ty k = .int) (kk : ev_W d M (np, L, .int (A k i) :: r) σ Q) : ev_W d M F σ Q := by
  subst hj
  have h := hP.a k hk ha
  rw [ht] at h
  have hl : i < 2 ^ 31 := Nat.lt_trans hi (mo_len_lt k)
  refine g_iald hgo hf h rfl (nI_in hi (mo_len_lt k)) ?_
  rw [nI_clamp hl]
  exact kk
theorem mo_zld (hP : mo_P o A I σ.1) (k : Nat) {i a : Nat} {j : Int32} (hgo : ri_go 99 M F = (pc, L, .int j :: .ref a :: r)) (hf : ri_find pc M.2.2.2.2.2 = some (.baload, np, tg, kv)) (ha : a = o + 1 + k) (hj : j = nI i) (hi : i < mo_len k) (hk : k < 13) (ht : mo_ty k = .boolean) (kk : ev_W d M (np, L, .int (A k i) :: r) σ Q) : ev_W d M F σ Q := by
  subst hj
  have h := hP.a k hk ha
  rw [ht] at h
  have hl : i < 2 ^ 31 := Nat.lt_trans hi (mo_len_lt k)
  refine g_bald hgo hf h (nI_in hi (mo_len_lt k)) ?_
  rw [nI_clamp hl]
  exact kk
theorem mo_ast (hW : mo_W o A I σ0 σ) (k : Nat) {i a : Nat} {j x : Int32} (hgo : ri_go 99 M F = (pc, L, .int x :: .int j :: .ref a :: r)) (hf : ri_find pc M.2.2.2.2.2 = some (.iastore, np, tg, kv)) (ha : a = o + 1 + k) (hj : j = nI i) (hi : i < mo_len k) (hk : k < 13) (ht : mo_ty k = .int) (kk : ∀ σ' : ri_S, mo_W o (va_up A k (upd (A k) i x)) I σ0 σ' → ev_W d M (np, L, r) σ' Q) : ev_W d M F σ Q := by
  subst hj
  have h := hW.1.a k hk ha
  rw [ht] at h
  have hl : i < 2 ^ 31 := Nat.lt_trans hi (mo_len_lt k)
  refine g_iast hgo hf h (nI_in hi (mo_len_lt k)) ?_
  rw [nI_clamp hl]
  exact kk _ (hW.set k hk _ ha ht.symm rfl)
theorem mo_zst (hW : mo_W o A I σ0 σ) (k : Nat) {i a : Nat} {j x : Int32} (hgo : ri_go 99 M F = (pc, L, .int x :: .int j :: .ref a :: r)) (hf : ri_find pc M.2.2.2.2.2 = some (.bastore, np, tg, kv)) (ha : a = o + 1 + k) (hj : j = nI i) (hi : i < mo_len k) (hk : k < 13) (ht : mo_ty k = .boolean) (hx : x = 0 ∨ x = 1) (kk : ∀ σ' : ri_S, mo_W o (va_up A k (upd (A k) i x)) I σ0 σ' → ev_W d M (np, L, r) σ' Q) : ev_W d M F σ Q := by
  subst hj
  have h := hW.1.a k hk ha
  rw [ht] at h
  have hl : i < 2 ^ 31 := Nat.lt_trans hi (mo_len_lt k)
  refine g_bast hgo hf h (nI_in hi (mo_len_lt k)) ?_
  rw [nI_clamp hl, show vp_nar .boolean x = x by rcases hx with rfl | rfl <;> rfl]
  exact kk _ (hW.set k hk _ ha ht.symm rfl)
theorem mo_set (hW : mo_W o A I σ0 σ) {k j : Nat} {v : Int32} {ty : FieldType} (hgo : ri_go 99 M F = (pc, L, .int v :: .ref o :: r)) (hf : ri_find pc M.2.2.2.2.2 = some (.putfield k, np, tg, kv)) (ht : rt_f M.1 k = some (5, j, ty, 0)) (hn : narrow ty (.int v) = .int v) (hfi : fits ty (.int v) = true) (hj : Nat.blt j (mo_fs o I).length = true) (hs : (mo_fs o I).set j (.int v) = mo_fs o (va_up I j v)) (kk : ∀ σ' : ri_S, mo_W o A (va_up I j v) σ0 σ' → ev_W d M (np, L, r) σ' Q) : ev_W d M F σ Q := by
  refine g_put hgo hf ht hW.1.1 hn hfi hj ?_
  exact kk _ (hW.put j v hs)
end MO0
section MO1
variable {d o : Nat} {A : Nat → Nat → Int32} {I : Nat → Int32} {σ0 σ : ri_S} {Q : Option Value → ri_S → Prop}
set_option maxRecDepth 100000 in
/-- isField(f) -/
theorem mo_isField {f : Int32} (hP : mo_P o A I σ.1) (k1 : 0 ≤ f → f < I 4 → Q (some (.int 1)) σ) (k0 : ¬ (0 ≤ f ∧ f < I 4) → Q (some (.int 0)) σ) : ev_W d mMo_isField (0, [some (.ref o), some (.int f)], []) σ Q := by
  refine g_br rfl rfl rfl rfl rfl rfl (fun h => ?_) (fun h => ?_)
  · exact g_rt rfl rfl rfl (k0 (fun q => absurd h (Int32.not_lt.mpr q.1)))
  · refine g_get rfl rfl rfl hP.1 rfl ?_
    refine g_br rfl rfl rfl rfl rfl rfl (fun h2 => ?_) (fun h2 => ?_)
    · exact g_rt rfl rfl rfl (k0 (fun q => absurd q.2 (Int32.not_lt.mpr h2)))
    · exact g_rt rfl rfl rfl (k1 (Int32.not_lt.mp h) (Int32.not_le.mp h2))
/-- the chain of parents from f on, up to g or to none -/
def mo_ch (par : Nat → Int32) (g : Int32) : Nat → Int32 → Int32
  | 0, f => f
  | n + 1, f => if f = -1 ∨ f = g then f else mo_ch par g n (par f.toNatClampNeg)
/-- parents lie ahead -/
def mo_up (par : Nat → Int32) (n : Nat) : Prop := ∀ f, f < n → par f = -1 ∨ ∃ p, p < f ∧ par f = nI p
set_option maxRecDepth 100000 in
theorem mo_isAround_loop {g : Int32} {n : Nat} (hP : mo_P o A I σ.1) (hn : n ≤ 48) (hup : mo_up (A 0) n) : ∀ (m : Nat) (f : Int32), (f = -1 ∨ ∃ p, p < m ∧ f = nI p) → m ≤ n → (∀ r, r = mo_ch (A 0) g m f → (r = g → Q (some (.int 1)) σ) ∧ (¬ r = g → Q (some (.int 0)) σ)) → ev_W d mMo_isAround (7, [some (.ref o), some (.int g), some (.int f)], []) σ Q := by
  intro m
  induction m with
  | zero =>
    intro f hf hm hk
    obtain rfl : f = -1 := by
      rcases hf with h | ⟨p, hp, -⟩
      · exact h
      · exact absurd hp (Nat.not_lt_zero _)
    refine g_br rfl rfl rfl rfl rfl rfl (fun h => ?_) (fun h => absurd rfl h)
    refine g_br rfl rfl rfl rfl rfl rfl (fun h2 => ?_) (fun h2 => ?_)
    · exact g_rt rfl rfl rfl ((hk _ rfl).1 h2)
    · exact g_rt rfl rfl rfl ((hk _ rfl).2 h2)
  | succ m ih =>
    intro f hf hm hk
    refine g_br rfl rfl rfl rfl rfl rfl (fun h => ?_) (fun h => ?_)
    · have e : mo_ch (A 0) g (m + 1) f = f := by unfold mo_ch; rw [if_pos (Or.inl h)]
      refine g_br rfl rfl rfl rfl rfl rfl (fun h2 => ?_) (fun h2 => ?_)
      · exact g_rt rfl rfl rfl ((hk f e.symm).1 h2)
      · exact g_rt rfl rfl rfl ((hk f e.symm).2 h2)
    · refine g_br rfl rfl rfl rfl rfl rfl (fun h1 => ?_) (fun h1 => ?_)
      · have e : mo_ch (A 0) g (m + 1) f = f := by unfold mo_ch; rw [if_pos (Or.inr h1)]
        refine g_br rfl rfl rfl rfl rfl rfl (fun h2 => ?_) (fun h2 => ?_)
        · exact g_rt rfl rfl rfl ((hk f e.symm).1 h2)
        · exact g_rt rfl rfl rfl ((hk f e.symm).2 h2)
      · obtain ⟨p, hp, rfl⟩ : ∃ p, p < m + 1 ∧ f = nI p := by
          rcases hf with h9 | h9
          · exact absurd h9 h
          · exact h9
        have hp2 : p < 2 ^ 31 := by omega
        have e : mo_ch (A 0) g (m + 1) (nI p) = mo_ch (A 0) g m (A 0 p) := by
          show (if _ then _ else _) = _
          rw [if_neg (by rintro (q | q); exact h q; exact h1 q), nI_clamp hp2]
        refine g_get rfl rfl rfl hP.1 rfl ?_
        refine g_iald rfl rfl (hP.a 0 (by decide) rfl) rfl (nI_in (show p < 48 by omega) (by decide)) ?_
        rw [nI_clamp hp2]
        refine ev_go 2 rfl ?_
        refine ih (A 0 p) ?_ (by omega) (fun r hr => hk r (by rw [e]; exact hr))
        rcases hup p (by omega) with q | ⟨w, hw, q⟩
        · exact Or.inl q
        · exact Or.inr ⟨w, by omega, q⟩
set_option maxRecDepth 100000 in
/-- isAround(g) -/
theorem mo_isAround {g : Int32} {n : Nat} (hP : mo_P o A I σ.1) (hI : I 4 = nI n) (hn : n ≤ 48) (hup : mo_up (A 0) n) (k1 : mo_ch (A 0) g n (nI n - 1) = g → Q (some (.int 1)) σ) (k0 : ¬ mo_ch (A 0) g n (nI n - 1) = g → Q (some (.int 0)) σ) : ev_W d mMo_isAround (0, [some (.ref o), some (.int g), none], []) σ Q := by
  refine g_get rfl rfl rfl hP.1 rfl ?_
  refine ev_go 3 rfl ?_
  rw [hI]
  refine mo_isAround_loop hP hn hup n _ ?_ (Nat.le_refl _) (fun r hr => ⟨fun q => k1 (by rw [← hr]; exact q), fun q => k0 (by rw [← hr]; exact q)⟩)
  cases n with
  | zero => exact Or.inl rfl
  | succ n => exact Or.inr ⟨n, Nat.lt_succ_self n, nI_pred n⟩
set_option maxRecDepth 100000 in
set_option maxHeartbeats 1000000 in
/-- field(parent, kind, group): refused, or a field more -/
theorem mo_field {p kd : Int32} {gb : Int32} {n : Nat} (hW : mo_W o A I σ0 σ) (hI : I 4 = nI n) (hn : n ≤ 48) (hup : mo_up (A 0) n) (hgb : gb = 0 ∨ gb = 1)
    (kno : (¬ I 5 = 0 ∨ n = 48 ∨ kd < 0 ∨ 2 < kd ∨ p < -1 ∨ nI n ≤ p ∨ (¬ p = -1 ∧ (A 3 p.toNatClampNeg = 0 ∨ ¬ mo_ch (A 0) p n (nI n - 1) = p ∨ A 2 p.toNatClampNeg = 16))) → Q (some (.int (-1))) σ)
    (kyes : ∀ σ' : ri_S, I 5 = 0 → n < 48 → ¬ kd < 0 → ¬ 2 < kd → (p = -1 ∨ ∃ w, w < n ∧ p = nI w ∧ ¬ A 3 w = 0 ∧ mo_ch (A 0) p n (nI n - 1) = p ∧ ¬ A 2 w = 16) →
      mo_W o (va_up (va_up (va_up (va_up A 0 (upd (A 0) n p)) 1 (upd (A 1) n kd)) 3 (upd (A 3) n gb)) 2 (upd (A 2) n (if p = -1 then 1 else A 2 p.toNatClampNeg + 1))) (va_up I 4 (nI (n + 1))) σ0 σ' → Q (some (.int (nI n))) σ') :
    ev_W (d + 1) mMo_field (0, [some (.ref o), some (.int p), some (.int kd), some (.int gb)], []) σ Q := by
  have hP := hW.1
  have hn31 : n < 2 ^ 31 := by omega
  refine g_get rfl rfl rfl hP.1 rfl ?_
  refine g_br rfl rfl rfl rfl rfl rfl (fun h0 => ?_) (fun h0 => ?_)
  rotate_left
  · exact g_rt rfl rfl rfl (kno (Or.inl h0))
  refine g_get rfl rfl rfl hP.1 rfl ?_
  refine g_br rfl rfl rfl rfl rfl rfl (fun h1 => ?_) (fun h1 => ?_)
  · rw [hI] at h1
    exact g_rt rfl rfl rfl (kno (Or.inr (Or.inl ((nI_eq hn31 (by decide)).mp h1))))
  have hn48 : n < 48 := by
    rcases Nat.lt_or_ge n 48 with q | q
    · exact q
    · exact absurd (by rw [hI, show n = 48 by omega]; rfl) h1
  refine g_br rfl rfl rfl rfl rfl rfl (fun h2 => ?_) (fun h2 => ?_)
  · exact g_rt rfl rfl rfl (kno (Or.inr (Or.inr (Or.inl h2))))
  refine g_br rfl rfl rfl rfl rfl rfl (fun h3 => ?_) (fun h3 => ?_)
  · exact g_rt rfl rfl rfl (kno (Or.inr (Or.inr (Or.inr (Or.inl h3)))))
  refine g_br rfl rfl rfl rfl rfl rfl (fun h4 => ?_) (fun h4 => ?_)
  · exact g_rt rfl rfl rfl (kno (Or.inr (Or.inr (Or.inr (Or.inr (Or.inl h4))))))
  refine g_get rfl rfl rfl hP.1 rfl ?_
  refine g_br rfl rfl rfl rfl rfl rfl (fun h5 => ?_) (fun h5 => ?_)
  rotate_left
  · exact g_rt rfl rfl rfl (kno (Or.inr (Or.inr (Or.inr (Or.inr (Or.inr (Or.inl (by rw [← hI]; exact Int32.not_lt.mp h5))))))))
  rw [hI] at h5
  -- behind the tests: the four puts
  have fin : (p = -1 ∨ ∃ w, w < n ∧ p = nI w ∧ ¬ A 3 w = 0 ∧ mo_ch (A 0) p n (nI n - 1) = p ∧ ¬ A 2 w = 16) → ev_W (d + 1) mMo_field (75, [some (.ref o), some (.int p), some (.int kd), some (.int gb)], []) σ Q := by
    intro hp
    refine g_get rfl rfl rfl hP.1 rfl ?_
    refine g_get rfl rfl rfl hP.1 rfl ?_
    refine mo_ast hW 0 rfl rfl rfl hI hn48 (by decide) rfl (fun σ1 hW1 => ?_)
    refine g_get rfl rfl rfl hW1.1.1 rfl ?_
    refine g_get rfl rfl rfl hW1.1.1 rfl ?_
    refine mo_ast hW1 1 rfl rfl rfl hI hn48 (by decide) rfl (fun σ2 hW2 => ?_)
    refine g_get rfl rfl rfl hW2.1.1 rfl ?_
    refine g_get rfl rfl rfl hW2.1.1 rfl ?_
    refine mo_zst hW2 3 rfl rfl rfl hI hn48 (by decide) rfl hgb (fun σ3 hW3 => ?_)
    refine g_get rfl rfl rfl hW3.1.1 rfl ?_
    refine g_get rfl rfl rfl hW3.1.1 rfl ?_
    have last : ∀ x : Int32, x = (if p = -1 then 1 else A 2 p.toNatClampNeg + 1) → ev_W (d + 1) mMo_field (130, [some (.ref o), some (.int p), some (.int kd), some (.int gb)], [.int x, .int (I 4), .ref (o + 3)]) σ3 Q := by
      intro x ex
      refine mo_ast hW3 2 rfl rfl rfl hI hn48 (by decide) rfl (fun σ4 hW4 => ?_)
      refine g_get rfl rfl rfl hW4.1.1 rfl ?_
      refine mo_set hW4 rfl rfl rfl rfl rfl rfl rfl (fun σ5 hW5 => ?_)
      refine g_get rfl rfl rfl hW5.1.1 rfl ?_
      refine g_rt rfl rfl rfl ?_
      have e1 : I 4 + 1 = nI (n + 1) := by rw [hI]; exact nI_1 n
      have e2 : (I 4 + 1) - 1 = nI n := by rw [e1]; exact nI_pred n
      show Q (some (.int ((I 4 + 1) - 1))) σ5
      rw [e2]
      refine kyes σ5 h0 hn48 h2 h3 hp ?_
      rw [← e1, ← ex]
      exact hW5
    refine g_br rfl rfl rfl rfl rfl rfl (fun h7 => ?_) (fun h7 => ?_)
    · refine ev_go 2 rfl ?_
      exact last 1 (by rw [if_pos h7])
    · obtain ⟨w, hw, e, -⟩ : ∃ w, w < n ∧ p = nI w ∧ True := by
        rcases hp with q | ⟨w, hw, q, -⟩
        · exact absurd q h7
        · exact ⟨w, hw, q, trivial⟩
      refine g_get rfl rfl rfl hW3.1.1 rfl ?_
      refine mo_ald hW3.1 2 rfl rfl rfl e (show w < 48 by omega) (by decide) rfl ?_
      refine ev_go 2 rfl ?_
      exact last (A 2 w + 1) (by rw [if_neg h7, e, nI_clamp (by omega)])
  refine g_br rfl rfl rfl rfl rfl rfl (fun h6 => ?_) (fun h6 => ?_)
  · exact fin (Or.inl h6)
  obtain ⟨w, hw, e⟩ : ∃ w, w < n ∧ p = nI w := by
    have h9 : ¬ p < 0 := by
      intro q
      apply h6
      apply Int32.toInt_inj.mp
      have q1 := Int32.lt_iff_toInt_lt.mp q
      have q2 : ¬ p.toInt < (-1 : Int32).toInt := fun z => h4 (Int32.lt_iff_toInt_lt.mpr z)
      have e1 : (0 : Int32).toInt = 0 := rfl
      have e2 : (-1 : Int32).toInt = -1 := rfl
      rw [e1] at q1
      rw [e2] at q2 ⊢
      omega
    obtain ⟨w, hw, e⟩ := nI_of h9
    rw [e] at h5
    exact ⟨w, (nI_ltI hw hn31).mp h5, e⟩
  have hw31 : w < 2 ^ 31 := by omega
  have ep : p.toNatClampNeg = w := by rw [e]; exact nI_clamp hw31
  refine g_get rfl rfl rfl hP.1 rfl ?_
  refine mo_zld hP 3 rfl rfl rfl e (show w < 48 by omega) (by decide) rfl ?_
  refine g_br rfl rfl rfl rfl rfl rfl (fun h7 => ?_) (fun h7 => ?_)
  · exact g_rt rfl rfl rfl (kno (Or.inr (Or.inr (Or.inr (Or.inr (Or.inr (Or.inr ⟨h6, Or.inl (by rw [ep]; exact h7)⟩)))))))
  refine g_clV rfl rfl rfl rfl hP.1 rfl rfl rfl ?_
  refine mo_isAround hP hI hn hup (fun q => ?_) (fun q => ?_)
  rotate_left
  · refine g_br rfl rfl rfl rfl rfl rfl (fun h8 => ?_) (fun h8 => absurd rfl h8)
    exact g_rt rfl rfl rfl (kno (Or.inr (Or.inr (Or.inr (Or.inr (Or.inr (Or.inr ⟨h6, Or.inr (Or.inl q)⟩)))))))
  refine g_br rfl rfl rfl rfl rfl rfl (fun h8 => absurd h8 (by decide)) (fun h8 => ?_)
  refine g_get rfl rfl rfl hP.1 rfl ?_
  refine mo_ald hP 2 rfl rfl rfl e (show w < 48 by omega) (by decide) rfl ?_
  refine g_br rfl rfl rfl rfl rfl rfl (fun h9 => ?_) (fun h9 => ?_)
  · exact g_rt rfl rfl rfl (kno (Or.inr (Or.inr (Or.inr (Or.inr (Or.inr (Or.inr ⟨h6, Or.inr (Or.inr (by rw [ep]; exact h9))⟩)))))))
  · exact fin (Or.inr ⟨w, hw, e, h7, q, h9⟩)
end MO1
end
section
/-! THE REFERENCE: columns, columnOf, count, ready, level, begin, drop, records. -/
/-- how many of the first n are leaves -/
def mo_lv (G : Nat → Int32) : Nat → Nat
  | 0 => 0
  | n + 1 => mo_lv G n + (if G n = 0 then 1 else 0)
/-- how many on the chain of parents have at least that kind -/
def mo_ct (par kin : Nat → Int32) (least : Int32) : Nat → Int32 → Nat
  | 0, _ => 0
  | m + 1, f => if f = -1 then 0 else (if kin f.toNatClampNeg < least then 0 else 1) + mo_ct par kin least m (par f.toNatClampNeg)
theorem mo_lv_le (G : Nat → Int32) : ∀ n, mo_lv G n ≤ n
  | 0 => Nat.le_refl 0
  | n + 1 => by
    have := mo_lv_le G n
    unfold mo_lv
    split <;> omega
section MO2
variable {d o : Nat} {A : Nat → Nat → Int32} {I : Nat → Int32} {σ0 σ : ri_S} {Q : Option Value → ri_S → Prop}
set_option maxRecDepth 100000 in
theorem mo_columns_loop {n : Nat} (hP : mo_P o A I σ.1) (hI : I 4 = nI n) (hn : n ≤ 48) (k : Q (some (.int (nI (mo_lv (A 3) n)))) σ) : ∀ (m i : Nat), i + m = n → ev_W d mMo_columns (4, [some (.ref o), some (.int (nI (mo_lv (A 3) i))), some (.int (nI i))], []) σ Q := by
  intro m
  induction m with
  | zero =>
    intro i hi
    obtain rfl : i = n := by omega
    refine g_get rfl rfl rfl hP.1 rfl ?_
    refine g_br rfl rfl rfl rfl rfl rfl (fun h => ?_) (fun h => absurd (by rw [hI]; exact nI_le (Nat.le_refl _) (by omega)) h)
    exact g_rt rfl rfl rfl k
  | succ m ih =>
    intro i hi
    refine g_get rfl rfl rfl hP.1 rfl ?_
    refine g_br rfl rfl rfl rfl rfl rfl (fun h => absurd h (by rw [hI]; exact nI_ge (by omega) (by omega))) (fun h => ?_)
    refine g_get rfl rfl rfl hP.1 rfl ?_
    refine mo_zld hP 3 rfl rfl rfl rfl (show i < 48 by omega) (by decide) rfl ?_
    have e : ∀ x : Nat, mo_lv (A 3) (i + 1) = mo_lv (A 3) i + x → ev_W d mMo_columns (4, [some (.ref o), some (.int (nI (mo_lv (A 3) i) + nI x)), some (.int (nI i + 1))], []) σ Q := by
      intro x hx
      rw [nI_add, nI_1, ← hx]
      exact ih (i + 1) (by omega)
    refine g_br rfl rfl rfl rfl rfl rfl (fun h2 => ?_) (fun h2 => ?_)
    · refine ev_go 5 rfl ?_
      exact e 1 (by show mo_lv (A 3) i + (if A 3 i = 0 then 1 else 0) = _; rw [if_pos h2])
    · refine ev_go 6 rfl ?_
      exact e 0 (by show mo_lv (A 3) i + (if A 3 i = 0 then 1 else 0) = _; rw [if_neg h2])
set_option maxRecDepth 100000 in
/-- columns() -/
theorem mo_columns {n : Nat} (hP : mo_P o A I σ.1) (hI : I 4 = nI n) (hn : n ≤ 48) (k : Q (some (.int (nI (mo_lv (A 3) n)))) σ) : ev_W d mMo_columns (0, [some (.ref o), none, none], []) σ Q := by
  refine ev_go 4 rfl ?_
  exact mo_columns_loop hP hI hn k n 0 (by omega)
set_option maxRecDepth 100000 in
theorem mo_columnOf_loop {w : Nat} (hP : mo_P o A I σ.1) (hw : w < 48) (k : Q (some (.int (if A 3 w = 0 then nI (mo_lv (A 3) w) else -1))) σ) : ∀ (m i : Nat), i + m = w → ev_W d mMo_columnOf (4, [some (.ref o), some (.int (nI w)), some (.int (nI (mo_lv (A 3) i))), some (.int (nI i))], []) σ Q := by
  intro m
  induction m with
  | zero =>
    intro i hi
    obtain rfl : i = w := by omega
    refine g_br rfl rfl rfl rfl rfl rfl (fun h => ?_) (fun h => absurd (nI_le (Nat.le_refl _) (by omega)) h)
    refine g_get rfl rfl rfl hP.1 rfl ?_
    refine mo_zld hP 3 rfl rfl rfl rfl (show i < 48 by omega) (by decide) rfl ?_
    refine g_br rfl rfl rfl rfl rfl rfl (fun h2 => ?_) (fun h2 => ?_)
    · refine g_rt rfl rfl rfl ?_
      rw [if_pos h2] at k
      exact k
    · refine g_rt rfl rfl rfl ?_
      rw [if_neg h2] at k
      exact k
  | succ m ih =>
    intro i hi
    refine g_br rfl rfl rfl rfl rfl rfl (fun h => absurd h (nI_ge (by omega) (by omega))) (fun h => ?_)
    refine g_get rfl rfl rfl hP.1 rfl ?_
    refine mo_zld hP 3 rfl rfl rfl rfl (show i < 48 by omega) (by decide) rfl ?_
    have e : ∀ x : Nat, mo_lv (A 3) (i + 1) = mo_lv (A 3) i + x → ev_W d mMo_columnOf (4, [some (.ref o), some (.int (nI w)), some (.int (nI (mo_lv (A 3) i) + nI x)), some (.int (nI i + 1))], []) σ Q := by
      intro x hx
      rw [nI_add, nI_1, ← hx]
      exact ih (i + 1) (by omega)
    refine g_br rfl rfl rfl rfl rfl rfl (fun h2 => ?_) (fun h2 => ?_)
    · refine ev_go 5 rfl ?_
      exact e 1 (by show mo_lv (A 3) i + (if A 3 i = 0 then 1 else 0) = _; rw [if_pos h2])
    · refine ev_go 6 rfl ?_
      exact e 0 (by show mo_lv (A 3) i + (if A 3 i = 0 then 1 else 0) = _; rw [if_neg h2])
set_option maxRecDepth 100000 in
/-- columnOf(f) -/
theorem mo_columnOf {w : Nat} {f : Int32} (hP : mo_P o A I σ.1) (hf : f = nI w) (hw : w < 48) (k : Q (some (.int (if A 3 w = 0 then nI (mo_lv (A 3) w) else -1))) σ) : ev_W d mMo_columnOf (0, [some (.ref o), some (.int f), none, none], []) σ Q := by
  subst hf
  refine ev_go 4 rfl ?_
  exact mo_columnOf_loop hP hw k w 0 (by omega)
set_option maxRecDepth 100000 in
theorem mo_count_loop {n : Nat} {f0 least : Int32} (hP : mo_P o A I σ.1) (hn : n ≤ 48) (hup : mo_up (A 0) n) : ∀ (m : Nat) (f : Int32) (acc : Nat), (f = -1 ∨ ∃ p, p < m ∧ f = nI p) → m ≤ n → Q (some (.int (nI (acc + mo_ct (A 0) (A 1) least m f)))) σ → ev_W d mMo_count (5, [some (.ref o), some (.int f0), some (.int least), some (.int (nI acc)), some (.int f)], []) σ Q := by
  intro m
  induction m with
  | zero =>
    intro f acc hf hm hk
    obtain rfl : f = -1 := by
      rcases hf with h | ⟨p, hp, -⟩
      · exact h
      · exact absurd hp (Nat.not_lt_zero _)
    refine g_br rfl rfl rfl rfl rfl rfl (fun h => ?_) (fun h => absurd rfl h)
    exact g_rt rfl rfl rfl hk
  | succ m ih =>
    intro f acc hf hm hk
    refine g_br rfl rfl rfl rfl rfl rfl (fun h => ?_) (fun h => ?_)
    · refine g_rt rfl rfl rfl ?_
      unfold mo_ct at hk
      rw [if_pos h] at hk
      exact hk
    · obtain ⟨p, hp, rfl⟩ : ∃ p, p < m + 1 ∧ f = nI p := by
        rcases hf with h9 | h9
        · exact absurd h9 h
        · exact h9
      have hp2 : p < 2 ^ 31 := by omega
      unfold mo_ct at hk
      rw [if_neg h, nI_clamp hp2] at hk
      refine g_get rfl rfl rfl hP.1 rfl ?_
      refine mo_ald hP 1 rfl rfl rfl rfl (show p < 48 by omega) (by decide) rfl ?_
      have go : ∀ x : Nat, x = (if A 1 p < least then 0 else 1) → ev_W d mMo_count (28, [some (.ref o), some (.int f0), some (.int least), some (.int (nI acc)), some (.int (nI p))], [.int (nI x), .int (nI acc)]) σ Q := by
        intro x ex
        refine g_get rfl rfl rfl hP.1 rfl ?_
        refine mo_ald hP 0 rfl rfl rfl rfl (show p < 48 by omega) (by decide) rfl ?_
        refine ev_go 2 rfl ?_
        rw [nI_add]
        refine ih (A 0 p) (acc + x) ?_ (by omega) (by rw [ex, Nat.add_assoc]; exact hk)
        rcases hup p (by omega) with q | ⟨w, hw, q⟩
        · exact Or.inl q
        · exact Or.inr ⟨w, by omega, q⟩
      refine g_br rfl rfl rfl rfl rfl rfl (fun h2 => ?_) (fun h2 => ?_)
      · refine ev_go 1 rfl ?_
        exact go 0 (by rw [if_pos h2])
      · refine ev_go 2 rfl ?_
        exact go 1 (by rw [if_neg h2])
set_option maxRecDepth 100000 in
/-- count(f, least) -/
theorem mo_count {n w : Nat} {f least : Int32} (hP : mo_P o A I σ.1) (hf : f = nI w) (hw : w < n) (hn : n ≤ 48) (hup : mo_up (A 0) n) (k : Q (some (.int (nI (mo_ct (A 0) (A 1) least n f)))) σ) : ev_W d mMo_count (0, [some (.ref o), some (.int f), some (.int least), none, none], []) σ Q := by
  refine ev_go 4 rfl ?_
  refine mo_count_loop hP hn hup n f 0 (Or.inr ⟨w, hw, hf⟩) (Nat.le_refl _) ?_
  rw [Nat.zero_add]
  exact k
end MO2
end
section
/-! THE REFERENCE: ready, level, begin, has, comes, open, leaf, close, drop, records, event, tells. -/
/-- how many of the j occurrences from b on are of f and lie in ins -/
def mo_cn (ofs aro : Nat → Int32) (f ins : Int32) (b : Nat) : Nat → Nat
  | 0 => 0
  | j + 1 => mo_cn ofs aro f ins b j + (if ofs (b + j) = f ∧ aro (b + j) = ins then 1 else 0)
theorem mo_cn_le (ofs aro : Nat → Int32) (f ins : Int32) (b : Nat) : ∀ j, mo_cn ofs aro f ins b j ≤ j
  | 0 => Nat.le_refl 0
  | j + 1 => by
    have := mo_cn_le ofs aro f ins b j
    unfold mo_cn
    split <;> omega
theorem mo_n0 {c : Nat} (h : c < 2 ^ 31) : nI c ≤ 0 ↔ c = 0 := by
  constructor
  · intro q
    rcases Nat.eq_zero_or_pos c with e | e
    · exact e
    · exact absurd q (nI_nle e h)
  · rintro rfl
    decide
theorem mo_e0 {c : Nat} (h : c < 2 ^ 31) : nI c = 0 ↔ c = 0 := by
  constructor
  · intro q
    rcases Nat.eq_zero_or_pos c with e | e
    · exact e
    · exact absurd q (nI_ne0 e h)
  · rintro rfl
    rfl
section MO3
variable {d o : Nat} {A : Nat → Nat → Int32} {I : Nat → Int32} {σ0 σ : ri_S} {Q : Option Value → ri_S → Prop}
set_option maxRecDepth 100000 in
theorem mo_ready_in {n f : Nat} {x1 : Int32} (hP : mo_P o A I σ.1) (hI : I 4 = nI n) (hn : n ≤ 48) : ∀ (m g : Nat) (h : Int32), g + m = n → (h = 0 ∨ h = 1) → (∀ r : Int32, (r = 0 ∨ r = 1) → (r = 1 ↔ h = 1 ∨ ∃ q, g ≤ q ∧ q < n ∧ A 0 q = nI f) → ev_W d mMo_ready (84, [some (.ref o), some (.int x1), some (.int (nI f)), some (.int r), some (.int (nI n))], []) σ Q) → ev_W d mMo_ready (48, [some (.ref o), some (.int x1), some (.int (nI f)), some (.int h), some (.int (nI g))], []) σ Q := by
  intro m
  induction m with
  | zero =>
    intro g h hg hh hk
    obtain rfl : g = n := by omega
    refine g_get rfl rfl rfl hP.1 rfl ?_
    refine g_br rfl rfl rfl rfl rfl rfl (fun h1 => ?_) (fun h1 => absurd (by rw [hI]; exact nI_le (Nat.le_refl _) (by omega)) h1)
    exact hk h hh ⟨fun q => Or.inl q, fun q => q.elim id (fun ⟨w, q1, q2, _⟩ => absurd q2 (by omega))⟩
  | succ m ih =>
    intro g h hg hh hk
    refine g_get rfl rfl rfl hP.1 rfl ?_
    refine g_br rfl rfl rfl rfl rfl rfl (fun h1 => absurd h1 (by rw [hI]; exact nI_ge (by omega) (by omega))) (fun h1 => ?_)
    have nxt : ∀ b : Int32, (b = 0 ∨ b = 1) → (b = 1 ↔ h = 1 ∨ A 0 g = nI f) → ev_W d mMo_ready (77, [some (.ref o), some (.int x1), some (.int (nI f)), some (.int h), some (.int (nI g))], [.int b]) σ Q := by
      intro b hb hb2
      refine ev_go 3 rfl ?_
      show ev_W d mMo_ready (48, [some (.ref o), some (.int x1), some (.int (nI f)), some (.int b), some (.int (nI g + 1))], []) σ Q
      rw [nI_1]
      refine ih (g + 1) b (by omega) hb (fun r hr hr2 => hk r hr (hr2.trans ?_))
      rw [hb2]
      constructor
      · rintro ((q | q) | ⟨w, q1, q2, q3⟩)
        · exact Or.inl q
        · exact Or.inr ⟨g, Nat.le_refl _, by omega, q⟩
        · exact Or.inr ⟨w, by omega, q2, q3⟩
      · rintro (q | ⟨w, q1, q2, q3⟩)
        · exact Or.inl (Or.inl q)
        · rcases Nat.eq_or_lt_of_le q1 with e | e
          · subst e; exact Or.inl (Or.inr q3)
          · exact Or.inr ⟨w, e, q2, q3⟩
    refine g_br rfl rfl rfl rfl rfl rfl (fun h2 => ?_) (fun h2 => ?_)
    · refine g_get rfl rfl rfl hP.1 rfl ?_
      refine mo_ald hP 0 rfl rfl rfl rfl (show g < 48 by omega) (by decide) rfl ?_
      refine g_br rfl rfl rfl rfl rfl rfl (fun h3 => ?_) (fun h3 => ?_)
      · refine ev_go 2 rfl ?_
        exact nxt 1 (Or.inr rfl) ⟨fun _ => Or.inr h3, fun _ => rfl⟩
      · refine ev_go 1 rfl ?_
        refine nxt 0 (Or.inl rfl) ⟨fun q => absurd q (by decide), fun q => ?_⟩
        rcases q with q | q
        · rw [h2] at q; exact absurd q (by decide)
        · exact absurd q h3
    · have e1 : h = 1 := by
        rcases hh with q | q
        · exact absurd q h2
        · exact q
      refine ev_go 2 rfl ?_
      exact nxt 1 (Or.inr rfl) ⟨fun _ => Or.inl e1, fun _ => rfl⟩
/-- every group among the n has a field -/
def mo_full (A : Nat → Nat → Int32) (n f : Nat) : Prop := A 3 f = 0 ∨ ∃ q, q < n ∧ A 0 q = nI f
set_option maxRecDepth 100000 in
theorem mo_ready_out {n : Nat} (hW : mo_W o A I σ0 σ) (hI : I 4 = nI n) (hn : n ≤ 48) (gd0 : Prop)
    (kno : ¬ (gd0 ∧ ∀ f, f < n → mo_full A n f) → Q (some (.int (-1))) σ) (kyes : ∀ σ' : ri_S, (gd0 ∧ ∀ f, f < n → mo_full A n f) → mo_W o A (va_up I 5 1) σ0 σ' → Q (some (.int (nI (mo_lv (A 3) n)))) σ') :
    ∀ (m f : Nat) (g : Int32) (x3 x4 : Option Value), f + m = n → (g = 0 ∨ g = 1) → (g = 1 ↔ gd0 ∧ ∀ q, q < f → mo_full A n q) → ri_two [some (.ref o), some (.int g), some (.int (nI f)), x3, x4] 3 = false → ev_W (d + 1) mMo_ready (22, [some (.ref o), some (.int g), some (.int (nI f)), x3, x4], []) σ Q := by
  have hP := hW.1
  intro m
  induction m with
  | zero =>
    intro f g x3 x4 hf hg hg2 h34
    obtain rfl : f = n := by omega
    refine g_get rfl rfl rfl hP.1 rfl ?_
    refine g_br rfl rfl rfl rfl rfl rfl (fun h1 => ?_) (fun h1 => absurd (by rw [hI]; exact nI_le (Nat.le_refl _) (by omega)) h1)
    refine g_br rfl rfl rfl rfl rfl rfl (fun h2 => ?_) (fun h2 => ?_)
    · refine g_rt rfl rfl rfl (kno (fun q => ?_))
      have := hg2.mpr q
      rw [h2] at this
      exact absurd this (by decide)
    · have e1 : g = 1 := by
        rcases hg with q | q
        · exact absurd q h2
        · exact q
      refine mo_set hW rfl rfl rfl rfl rfl rfl rfl (fun σ1 hW1 => ?_)
      refine g_clV rfl rfl rfl rfl hW1.1.1 rfl rfl rfl ?_
      refine mo_columns hW1.1 hI hn ?_
      exact g_rt rfl rfl rfl (kyes σ1 (hg2.mp e1) hW1)
  | succ m ih =>
    intro f g x3 x4 hf hg hg2 h34
    refine g_get rfl rfl rfl hP.1 rfl ?_
    refine g_br rfl rfl rfl rfl rfl rfl (fun h1 => absurd h1 (by rw [hI]; exact nI_ge (by omega) (by omega))) (fun h1 => ?_)
    refine g_get rfl rfl rfl hP.1 rfl ?_
    refine mo_zld hP 3 rfl rfl rfl rfl (show f < 48 by omega) (by decide) rfl ?_
    have inn : ∀ h : Int32, (h = 0 ∨ h = 1) → (h = 1 ↔ A 3 f = 0) → ev_W (d + 1) mMo_ready (48, [some (.ref o), some (.int g), some (.int (nI f)), some (.int h), some (.int (nI 0))], []) σ Q := by
      intro h hh hh2
      refine mo_ready_in hP hI hn n 0 h (by omega) hh (fun r hr hr2 => ?_)
      have efull : r = 1 ↔ mo_full A n f := by
        rw [hr2, hh2]
        unfold mo_full
        constructor
        · rintro (q | ⟨w, -, q2, q3⟩)
          · exact Or.inl q
          · exact Or.inr ⟨w, q2, q3⟩
        · rintro (q | ⟨w, q2, q3⟩)
          · exact Or.inl q
          · exact Or.inr ⟨w, Nat.zero_le _, q2, q3⟩
      have nxt : ∀ b : Int32, (b = 0 ∨ b = 1) → (b = 1 ↔ g = 1 ∧ r = 1) → ev_W (d + 1) mMo_ready (97, [some (.ref o), some (.int g), some (.int (nI f)), some (.int r), some (.int (nI n))], [.int b]) σ Q := by
        intro b hb hb2
        refine ev_go 3 rfl ?_
        show ev_W (d + 1) mMo_ready (22, [some (.ref o), some (.int b), some (.int (nI f + 1)), some (.int r), some (.int (nI n))], []) σ Q
        rw [nI_1]
        refine ih (f + 1) b _ _ (by omega) hb ?_ rfl
        rw [hb2, hg2, efull]
        constructor
        · rintro ⟨⟨q1, q2⟩, q3⟩
          refine ⟨q1, fun q hq => ?_⟩
          rcases Nat.lt_succ_iff_lt_or_eq.mp hq with e | e
          · exact q2 q e
          · subst e; exact q3
        · rintro ⟨q1, q2⟩
          exact ⟨⟨q1, fun q hq => q2 q (by omega)⟩, q2 f (by omega)⟩
      refine g_br rfl rfl rfl rfl rfl rfl (fun h2 => ?_) (fun h2 => ?_)
      · refine ev_go 1 rfl ?_
        exact nxt 0 (Or.inl rfl) ⟨fun q => absurd q (by decide), fun q => by rw [h2] at q; exact absurd q.1 (by decide)⟩
      · have e1 : g = 1 := by
          rcases hg with q | q
          · exact absurd q h2
          · exact q
        refine g_br rfl rfl rfl rfl rfl rfl (fun h3 => ?_) (fun h3 => ?_)
        · refine ev_go 1 rfl ?_
          exact nxt 0 (Or.inl rfl) ⟨fun q => absurd q (by decide), fun q => by rw [h3] at q; exact absurd q.2 (by decide)⟩
        · have e2 : r = 1 := by
            rcases hr with q | q
            · exact absurd q h3
            · exact q
          refine ev_go 2 rfl ?_
          exact nxt 1 (Or.inr rfl) ⟨fun _ => ⟨e1, e2⟩, fun _ => rfl⟩
    refine g_br rfl rfl rfl rfl rfl rfl (fun h2 => ?_) (fun h2 => ?_)
    · refine ev_go 5 rfl ?_
      exact inn 1 (Or.inr rfl) ⟨fun _ => h2, fun _ => rfl⟩
    · refine ev_go 4 rfl ?_
      exact inn 0 (Or.inl rfl) ⟨fun q => absurd q (by decide), fun q => absurd q h2⟩
set_option maxRecDepth 100000 in
/-- ready() -/
theorem mo_ready {n : Nat} (hW : mo_W o A I σ0 σ) (hI : I 4 = nI n) (hn : n ≤ 48)
    (kno : ¬ ((I 5 = 0 ∧ 0 < n) ∧ ∀ f, f < n → mo_full A n f) → Q (some (.int (-1))) σ) (kyes : ∀ σ' : ri_S, ((I 5 = 0 ∧ 0 < n) ∧ ∀ f, f < n → mo_full A n f) → mo_W o A (va_up I 5 1) σ0 σ' → Q (some (.int (nI (mo_lv (A 3) n)))) σ') :
    ev_W (d + 1) mMo_ready (0, [some (.ref o), none, none, none, none], []) σ Q := by
  have hP := hW.1
  refine g_get rfl rfl rfl hP.1 rfl ?_
  have go : ∀ g : Int32, (g = 0 ∨ g = 1) → (g = 1 ↔ I 5 = 0 ∧ 0 < n) → ev_W (d + 1) mMo_ready (22, [some (.ref o), some (.int g), some (.int (nI 0)), none, none], []) σ Q := by
    intro g hg hg2
    refine mo_ready_out hW hI hn (I 5 = 0 ∧ 0 < n) kno kyes n 0 g none none (by omega) hg ?_ rfl
    rw [hg2]
    exact ⟨fun q => ⟨q, fun _ h => absurd h (Nat.not_lt_zero _)⟩, fun q => q.1⟩
  refine g_br rfl rfl rfl rfl rfl rfl (fun h1 => ?_) (fun h1 => ?_)
  · refine g_get rfl rfl rfl hP.1 rfl ?_
    refine g_br rfl rfl rfl rfl rfl rfl (fun h2 => ?_) (fun h2 => ?_)
    · refine ev_go 4 rfl ?_
      refine go 0 (Or.inl rfl) ⟨fun q => absurd q (by decide), fun q => ?_⟩
      rw [hI] at h2
      have := (mo_n0 (by omega)).mp h2
      omega
    · refine ev_go 5 rfl ?_
      refine go 1 (Or.inr rfl) ⟨fun _ => ⟨h1, ?_⟩, fun _ => rfl⟩
      rcases Nat.eq_zero_or_pos n with e | e
      · exact absurd (by rw [hI, e]; decide) h2
      · exact e
  · refine ev_go 4 rfl ?_
    exact go 0 (Or.inl rfl) ⟨fun q => absurd q (by decide), fun q => absurd q.1 h1⟩
end MO3
end
section
/-! THE REFERENCE: level, begin, has, comes, open, leaf, close, drop, records, event, tells. -/
section MO4
variable {d o : Nat} {A : Nat → Nat → Int32} {I : Nat → Int32} {σ0 σ : ri_S} {Q : Option Value → ri_S → Prop}
set_option maxRecDepth 100000 in
/-- level(f, what) -/
theorem mo_level {n : Nat} {f wh : Int32} (hP : mo_P o A I σ.1) (hI : I 4 = nI n) (hn : n ≤ 48) (hup : mo_up (A 0) n) (k : ∀ v : Int32, Q (some (.int v)) σ) : ev_W (d + 1) mMo_level (0, [some (.ref o), some (.int f), some (.int wh)], []) σ Q := by
  refine g_clV rfl rfl rfl rfl hP.1 rfl rfl rfl ?_
  refine mo_isField hP (fun h1 h2 => ?_) (fun h0 => ?_)
  rotate_left
  · refine g_br rfl rfl rfl rfl rfl rfl (fun h => ?_) (fun h => absurd rfl h)
    exact g_rt rfl rfl rfl (k _)
  obtain ⟨w, hw, e⟩ : ∃ w, w < n ∧ f = nI w := by
    obtain ⟨w, hw, e⟩ := nI_of (Int32.not_lt.mpr h1)
    rw [e, hI] at h2
    exact ⟨w, (nI_ltI hw (by omega)).mp h2, e⟩
  refine g_br rfl rfl rfl rfl rfl rfl (fun h => absurd h (by decide)) (fun h => ?_)
  refine g_br rfl rfl rfl rfl rfl rfl (fun h3 => ?_) (fun h3 => ?_)
  · refine g_clV rfl rfl rfl rfl hP.1 rfl rfl rfl ?_
    refine mo_count hP e hw hn hup ?_
    exact g_rt rfl rfl rfl (k _)
  refine g_br rfl rfl rfl rfl rfl rfl (fun h4 => ?_) (fun h4 => ?_)
  · refine g_clV rfl rfl rfl rfl hP.1 rfl rfl rfl ?_
    refine mo_count hP e hw hn hup ?_
    exact g_rt rfl rfl rfl (k _)
  refine g_br rfl rfl rfl rfl rfl rfl (fun h5 => ?_) (fun h5 => ?_)
  · refine g_get rfl rfl rfl hP.1 rfl ?_
    refine g_br rfl rfl rfl rfl rfl rfl (fun h6 => ?_) (fun h6 => ?_)
    · exact g_rt rfl rfl rfl (k _)
    · refine g_clV rfl rfl rfl rfl hP.1 rfl rfl rfl ?_
      refine mo_columnOf hP e (by omega) ?_
      exact g_rt rfl rfl rfl (k _)
  · exact g_rt rfl rfl rfl (k _)
set_option maxRecDepth 100000 in
/-- begin() -/
theorem mo_begin {r : Nat} (hW : mo_W o A I σ0 σ) (hr : I 11 = nI r) (hr2 : r ≤ 128)
    (kno : ¬ (¬ I 5 = 0 ∧ I 12 = 0 ∧ r < 128) → Q (some (.int 0)) σ)
    (kyes : ∀ σ' : ri_S, (¬ I 5 = 0 ∧ I 12 = 0 ∧ r < 128) → mo_W o (va_up A 7 (upd (A 7) r (I 9))) (va_up (va_up I 12 1) 13 (-1)) σ0 σ' → Q (some (.int 1)) σ') :
    ev_W d mMo_begin (0, [some (.ref o)], []) σ Q := by
  have hP := hW.1
  refine g_get rfl rfl rfl hP.1 rfl ?_
  refine g_br rfl rfl rfl rfl rfl rfl (fun h1 => ?_) (fun h1 => ?_)
  · exact g_rt rfl rfl rfl (kno (fun q => q.1 h1))
  refine g_get rfl rfl rfl hP.1 rfl ?_
  refine g_br rfl rfl rfl rfl rfl rfl (fun h2 => ?_) (fun h2 => ?_)
  rotate_left
  · exact g_rt rfl rfl rfl (kno (fun q => h2 q.2.1))
  refine g_get rfl rfl rfl hP.1 rfl ?_
  refine g_br rfl rfl rfl rfl rfl rfl (fun h3 => ?_) (fun h3 => ?_)
  · refine g_rt rfl rfl rfl (kno (fun q => ?_))
    rw [hr] at h3
    have := (nI_eq (by omega) (by decide)).mp (show nI r = nI 128 from h3)
    omega
  have h4 : r < 128 := by
    rcases Nat.lt_or_ge r 128 with q | q
    · exact q
    · exact absurd (by rw [hr, show r = 128 by omega]; rfl) h3
  refine g_get rfl rfl rfl hP.1 rfl ?_
  refine g_get rfl rfl rfl hP.1 rfl ?_
  refine g_get rfl rfl rfl hP.1 rfl ?_
  refine mo_ast hW 7 rfl rfl rfl hr (show r < 129 by omega) (by decide) rfl (fun σ1 hW1 => ?_)
  refine mo_set hW1 rfl rfl rfl rfl rfl rfl rfl (fun σ2 hW2 => ?_)
  refine mo_set hW2 rfl rfl rfl rfl rfl rfl rfl (fun σ3 hW3 => ?_)
  exact g_rt rfl rfl rfl (kyes σ3 ⟨h1, h2, h4⟩ hW3)
set_option maxRecDepth 100000 in
theorem mo_has_loop {f : Int32} {m b : Nat} (hP : mo_P o A I σ.1) (hm : I 9 = nI m) (hm2 : m ≤ 2048) (k : Q (some (.int (nI (mo_cn (A 4) (A 6) f (I 13) b (m - b))))) σ) : ∀ (t j : Nat), b + j + t = m → ev_W d mMo_has (12, [some (.ref o), some (.int f), some (.int (nI (mo_cn (A 4) (A 6) f (I 13) b j))), some (.int (nI (b + j)))], []) σ Q := by
  intro t
  induction t with
  | zero =>
    intro j hj
    refine g_get rfl rfl rfl hP.1 rfl ?_
    refine g_br rfl rfl rfl rfl rfl rfl (fun h => ?_) (fun h => absurd (by rw [hm]; exact nI_le (by omega) (by omega)) h)
    rw [show m - b = j by omega] at k
    exact g_rt rfl rfl rfl k
  | succ t ih =>
    intro j hj
    refine g_get rfl rfl rfl hP.1 rfl ?_
    refine g_br rfl rfl rfl rfl rfl rfl (fun h => absurd h (by rw [hm]; exact nI_ge (by omega) (by omega))) (fun h => ?_)
    have nxt : ∀ x : Nat, x = (if A 4 (b + j) = f ∧ A 6 (b + j) = I 13 then 1 else 0) → ev_W d mMo_has (49, [some (.ref o), some (.int f), some (.int (nI (mo_cn (A 4) (A 6) f (I 13) b j))), some (.int (nI (b + j)))], [.int (nI x), .int (nI (mo_cn (A 4) (A 6) f (I 13) b j))]) σ Q := by
      intro x hx
      refine ev_go 4 rfl ?_
      show ev_W d mMo_has (12, [some (.ref o), some (.int f), some (.int (nI (mo_cn (A 4) (A 6) f (I 13) b j) + nI x)), some (.int (nI (b + j) + 1))], []) σ Q
      rw [nI_add, nI_1, hx]
      exact ih (j + 1) (by omega)
    refine g_get rfl rfl rfl hP.1 rfl ?_
    refine mo_ald hP 4 rfl rfl rfl rfl (show b + j < 2048 by omega) (by decide) rfl ?_
    refine g_br rfl rfl rfl rfl rfl rfl (fun h1 => ?_) (fun h1 => ?_)
    · refine g_get rfl rfl rfl hP.1 rfl ?_
      refine mo_ald hP 6 rfl rfl rfl rfl (show b + j < 2048 by omega) (by decide) rfl ?_
      refine g_get rfl rfl rfl hP.1 rfl ?_
      refine g_br rfl rfl rfl rfl rfl rfl (fun h2 => ?_) (fun h2 => ?_)
      · refine ev_go 2 rfl ?_
        exact nxt 1 (by rw [if_pos ⟨h1, h2⟩])
      · refine ev_go 1 rfl ?_
        exact nxt 0 (by rw [if_neg (fun q => h2 q.2)])
    · refine ev_go 1 rfl ?_
      exact nxt 0 (by rw [if_neg (fun q => h1 q.1)])
set_option maxRecDepth 100000 in
/-- has(f) -/
theorem mo_has {f : Int32} {m b r : Nat} (hP : mo_P o A I σ.1) (hr : I 11 = nI r) (hr2 : r ≤ 128) (hb : A 7 r = nI b) (hbm : b ≤ m) (hm : I 9 = nI m) (hm2 : m ≤ 2048) (k : Q (some (.int (nI (mo_cn (A 4) (A 6) f (I 13) b (m - b))))) σ) : ev_W d mMo_has (0, [some (.ref o), some (.int f), none, none], []) σ Q := by
  refine g_get rfl rfl rfl hP.1 rfl ?_
  refine g_get rfl rfl rfl hP.1 rfl ?_
  refine mo_ald hP 7 rfl rfl rfl hr (show r < 129 by omega) (by decide) rfl ?_
  rw [hb]
  refine ev_go 1 rfl ?_
  exact mo_has_loop hP hm hm2 k (m - b) 0 (by omega)
set_option maxRecDepth 100000 in
/-- drop() -/
theorem mo_drop {r : Nat} (hW : mo_W o A I σ0 σ) (hr : I 11 = nI r) (hr2 : r ≤ 128) (kno : I 12 = 0 → Q (some (.int 0)) σ)
    (kyes : ∀ σ' : ri_S, ¬ I 12 = 0 → mo_W o A (va_up (va_up (va_up I 12 0) 9 (A 7 r)) 13 (-1)) σ0 σ' → Q (some (.int 1)) σ') : ev_W d mMo_drop (0, [some (.ref o)], []) σ Q := by
  have hP := hW.1
  refine g_get rfl rfl rfl hP.1 rfl ?_
  refine g_br rfl rfl rfl rfl rfl rfl (fun h1 => ?_) (fun h1 => ?_)
  · exact g_rt rfl rfl rfl (kno h1)
  refine mo_set hW rfl rfl rfl rfl rfl rfl rfl (fun σ1 hW1 => ?_)
  refine g_get rfl rfl rfl hW1.1.1 rfl ?_
  refine g_get rfl rfl rfl hW1.1.1 rfl ?_
  refine mo_ald hW1.1 7 rfl rfl rfl hr (show r < 129 by omega) (by decide) rfl ?_
  refine mo_set hW1 rfl rfl rfl rfl rfl rfl rfl (fun σ2 hW2 => ?_)
  refine mo_set hW2 rfl rfl rfl rfl rfl rfl rfl (fun σ3 hW3 => ?_)
  exact g_rt rfl rfl rfl (kyes σ3 h1 hW3)
set_option maxRecDepth 100000 in
/-- records() -/
theorem mo_records (hP : mo_P o A I σ.1) (k : Q (some (.int (I 11))) σ) : ev_W d mMo_records (0, [some (.ref o)], []) σ Q := by
  refine g_get rfl rfl rfl hP.1 rfl ?_
  exact g_rt rfl rfl rfl k
set_option maxRecDepth 100000 in
/-- event(k, what) -/
theorem mo_event {k wh : Int32} {v : Nat} (hP : mo_P o A I σ.1) (hv : I 23 = nI v) (hv2 : v ≤ 4096) (kk : ∀ x : Int32, x = (if k < 0 ∨ nI v ≤ k then -1 else if wh = 0 then A 11 k.toNatClampNeg else if wh = 1 then A 12 k.toNatClampNeg else -1) → Q (some (.int x)) σ) : ev_W d mMo_event (0, [some (.ref o), some (.int k), some (.int wh)], []) σ Q := by
  refine g_br rfl rfl rfl rfl rfl rfl (fun h1 => ?_) (fun h1 => ?_)
  · exact g_rt rfl rfl rfl (kk _ (by rw [if_pos (Or.inl h1)]))
  refine g_get rfl rfl rfl hP.1 rfl ?_
  refine g_br rfl rfl rfl rfl rfl rfl (fun h2 => ?_) (fun h2 => ?_)
  rotate_left
  · exact g_rt rfl rfl rfl (kk _ (by rw [if_pos (Or.inr (by rw [← hv]; exact Int32.not_lt.mp h2))]))
  rw [hv] at h2
  obtain ⟨w, hw, e⟩ := nI_of h1
  subst e
  have hwv : w < v := (nI_ltI hw (by omega)).mp h2
  have en : ¬ (nI w < 0 ∨ nI v ≤ nI w) := by
    rintro (q | q)
    · exact h1 q
    · exact absurd q (nI_ge hwv (by omega))
  refine g_br rfl rfl rfl rfl rfl rfl (fun h3 => ?_) (fun h3 => ?_)
  · refine g_get rfl rfl rfl hP.1 rfl ?_
    refine mo_ald hP 11 rfl rfl rfl rfl (show w < 4096 by omega) (by decide) rfl ?_
    exact g_rt rfl rfl rfl (kk _ (by rw [if_neg en, if_pos h3, nI_clamp hw]))
  refine g_br rfl rfl rfl rfl rfl rfl (fun h4 => ?_) (fun h4 => ?_)
  · refine g_get rfl rfl rfl hP.1 rfl ?_
    refine mo_ald hP 12 rfl rfl rfl rfl (show w < 4096 by omega) (by decide) rfl ?_
    exact g_rt rfl rfl rfl (kk _ (by rw [if_neg en, if_neg h3, if_pos h4, nI_clamp hw]))
  · exact g_rt rfl rfl rfl (kk _ (by rw [if_neg en, if_neg h3, if_neg h4]))
set_option maxRecDepth 100000 in
/-- tells(e, v) -/
theorem mo_tells {e x : Int32} {v : Nat} (hW : mo_W o A I σ0 σ) (hv : I 23 = nI v) (hv2 : v < 4096) (kk : ∀ σ' : ri_S, mo_W o (va_up (va_up A 11 (upd (A 11) v e)) 12 (upd (A 12) v x)) (va_up I 23 (nI (v + 1))) σ0 σ' → Q none σ') : ev_W d mMo_tells (0, [some (.ref o), some (.int e), some (.int x)], []) σ Q := by
  have hP := hW.1
  refine g_get rfl rfl rfl hP.1 rfl ?_
  refine g_get rfl rfl rfl hP.1 rfl ?_
  refine mo_ast hW 11 rfl rfl rfl hv hv2 (by decide) rfl (fun σ1 hW1 => ?_)
  refine g_get rfl rfl rfl hW1.1.1 rfl ?_
  refine g_get rfl rfl rfl hW1.1.1 rfl ?_
  refine mo_ast hW1 12 rfl rfl rfl hv hv2 (by decide) rfl (fun σ2 hW2 => ?_)
  refine g_get rfl rfl rfl hW2.1.1 rfl ?_
  refine mo_set hW2 rfl rfl rfl rfl rfl rfl rfl (fun σ3 hW3 => ?_)
  refine g_rt rfl rfl rfl (kk σ3 ?_)
  rw [← nI_1, ← hv]
  exact hW3
end MO4
end
section
/-! THE REFERENCE: comes, open, leaf, close. -/
/-- how many occurrences of field g the open group has -/
def mo_hs (A : Nat → Nat → Int32) (I : Nat → Int32) (b m g : Nat) : Nat := mo_cn (A 4) (A 6) (nI g) (I 13) b (m - b)
/-- the open group's field; -1: the record -/
def mo_ps (A : Nat → Nat → Int32) (I : Nat → Int32) : Int32 := if I 13 = -1 then -1 else A 4 (I 13).toNatClampNeg
/-- what comes asks of a field g beside f = w -/
def mo_cg (A : Nat → Nat → Int32) (I : Nat → Int32) (b m w g : Nat) : Prop := A 0 g = A 0 w → (w ≤ g ∨ ¬ A 1 g = 0 ∨ 0 < mo_hs A I b m g) ∧ (g ≤ w ∨ mo_hs A I b m g = 0)
/-- an occurrence of f may come -/
def mo_may (A : Nat → Nat → Int32) (I : Nat → Int32) (n b m : Nat) (f gb : Int32) : Prop := ¬ I 12 = 0 ∧ ∃ w, w < n ∧ f = nI w ∧ A 3 w = gb ∧ A 0 w = mo_ps A I ∧ m < 2048 ∧ (A 1 w = 2 ∨ mo_hs A I b m w = 0) ∧ ∀ g, g < n → mo_cg A I b m w g
section MO5
variable {d o : Nat} {A : Nat → Nat → Int32} {I : Nat → Int32} {σ0 σ : ri_S} {Q : Option Value → ri_S → Prop}
theorem mo_hs_lt {b m g : Nat} (hm2 : m ≤ 2048) : mo_hs A I b m g < 2 ^ 31 := by
  have := mo_cn_le (A 4) (A 6) (nI g) (I 13) b (m - b)
  unfold mo_hs
  omega
set_option maxRecDepth 100000 in
set_option maxHeartbeats 1000000 in
theorem mo_comes_loop {v gb : Int32} {n w b m r : Nat} (hP : mo_P o A I σ.1) (hI : I 4 = nI n) (hn : n ≤ 48) (hw : w < n) (hr : I 11 = nI r) (hr2 : r ≤ 128) (hb : A 7 r = nI b) (hbm : b ≤ m) (hm : I 9 = nI m) (hm2 : m ≤ 2048)
    (k : ∀ x : Int32, (x = 0 ∨ x = 1) → (x = 1 ↔ ∀ q, q < n → mo_cg A I b m w q) → ev_W (d + 1) mMo_comes (174, [some (.ref o), some (.int (nI w)), some (.int v), some (.int gb), some (.int x), some (.int (nI n))], []) σ Q) :
    ∀ (t g : Nat) (x : Int32), g + t = n → (x = 0 ∨ x = 1) → (x = 1 ↔ ∀ q, q < g → mo_cg A I b m w q) → ev_W (d + 1) mMo_comes (91, [some (.ref o), some (.int (nI w)), some (.int v), some (.int gb), some (.int x), some (.int (nI g))], []) σ Q := by
  intro t
  induction t with
  | zero =>
    intro g x hg hx hx2
    obtain rfl : g = n := by omega
    refine g_get rfl rfl rfl hP.1 rfl ?_
    refine g_br rfl rfl rfl rfl rfl rfl (fun h1 => ?_) (fun h1 => absurd (by rw [hI]; exact nI_le (Nat.le_refl _) (by omega)) h1)
    exact k x hx hx2
  | succ t ih =>
    intro g x hg hx hx2
    have hhs : mo_hs A I b m g < 2 ^ 31 := mo_hs_lt hm2
    refine g_get rfl rfl rfl hP.1 rfl ?_
    refine g_br rfl rfl rfl rfl rfl rfl (fun h1 => absurd h1 (by rw [hI]; exact nI_ge (by omega) (by omega))) (fun h1 => ?_)
    have on : ∀ y : Int32, (y = 0 ∨ y = 1) → (y = 1 ↔ x = 1 ∧ mo_cg A I b m w g) → ev_W (d + 1) mMo_comes (91, [some (.ref o), some (.int (nI w)), some (.int v), some (.int gb), some (.int y), some (.int (nI g + 1))], []) σ Q := by
      intro y hy hy2
      rw [nI_1]
      refine ih (g + 1) y (by omega) hy ?_
      rw [hy2, hx2]
      constructor
      · rintro ⟨q1, q2⟩ q hq
        rcases Nat.lt_succ_iff_lt_or_eq.mp hq with e | e
        · exact q1 q e
        · subst e; exact q2
      · intro q
        exact ⟨fun q1 h => q q1 (by omega), q g (by omega)⟩
    have nxt : ∀ y : Int32, (y = 0 ∨ y = 1) → (y = 1 ↔ x = 1 ∧ mo_cg A I b m w g) → ev_W (d + 1) mMo_comes (166, [some (.ref o), some (.int (nI w)), some (.int v), some (.int gb), some (.int x), some (.int (nI g))], [.int y]) σ Q := by
      intro y hy hy2
      refine ev_go 3 rfl ?_
      exact on y hy hy2
    have no : ¬ (x = 1 ∧ mo_cg A I b m w g) → ev_W (d + 1) mMo_comes (165, [some (.ref o), some (.int (nI w)), some (.int v), some (.int gb), some (.int x), some (.int (nI g))], []) σ Q := by
      intro q
      refine ev_go 1 rfl ?_
      exact nxt 0 (Or.inl rfl) ⟨fun z => absurd z (by decide), fun z => absurd z q⟩
    have yes : (x = 1 ∧ mo_cg A I b m w g) → ev_W (d + 1) mMo_comes (161, [some (.ref o), some (.int (nI w)), some (.int v), some (.int gb), some (.int x), some (.int (nI g))], []) σ Q := by
      intro q
      refine ev_go 2 rfl ?_
      exact nxt 1 (Or.inr rfl) ⟨fun _ => q, fun _ => rfl⟩
    refine g_get rfl rfl rfl hP.1 rfl ?_
    refine mo_ald hP 0 rfl rfl rfl rfl (show g < 48 by omega) (by decide) rfl ?_
    refine g_get rfl rfl rfl hP.1 rfl ?_
    refine mo_ald hP 0 rfl rfl rfl rfl (show w < 48 by omega) (by decide) rfl ?_
    refine g_br rfl rfl rfl rfl rfl rfl (fun h2 => ?_) (fun h2 => ?_)
    rotate_left
    · refine ev_go 2 rfl ?_
      exact on x hx ⟨fun q => ⟨q, fun z => absurd z h2⟩, fun q => q.1⟩
    refine g_br rfl rfl rfl rfl rfl rfl (fun h3 => ?_) (fun h3 => ?_)
    · exact no (fun q => by rw [h3] at q; exact absurd q.1 (by decide))
    have e1 : x = 1 := by
      rcases hx with q | q
      · exact absurd q h3
      · exact q
    have second : (w ≤ g ∨ ¬ A 1 g = 0 ∨ 0 < mo_hs A I b m g) → ev_W (d + 1) mMo_comes (146, [some (.ref o), some (.int (nI w)), some (.int v), some (.int gb), some (.int x), some (.int (nI g))], []) σ Q := by
      intro q
      refine g_br rfl rfl rfl rfl rfl rfl (fun h4 => ?_) (fun h4 => ?_)
      · exact yes ⟨e1, fun _ => ⟨q, Or.inl ((nI_leI (by omega) (by omega)).mp h4)⟩⟩
      · have hlt : w < g := by
          rcases Nat.lt_or_ge w g with z | z
          · exact z
          · exact absurd (nI_le z (by omega)) h4
        refine g_clV rfl rfl rfl rfl hP.1 rfl rfl rfl ?_
        refine mo_has hP hr hr2 hb hbm hm hm2 ?_
        refine g_br rfl rfl rfl rfl rfl rfl (fun h5 => ?_) (fun h5 => ?_)
        · exact yes ⟨e1, fun _ => ⟨q, Or.inr ((mo_e0 hhs).mp h5)⟩⟩
        · refine no (fun z => ?_)
          rcases (z.2 h2).2 with z2 | z2
          · omega
          · exact h5 ((mo_e0 hhs).mpr z2)
    refine g_br rfl rfl rfl rfl rfl rfl (fun h4 => ?_) (fun h4 => ?_)
    · exact second (Or.inl ((nI_leI (by omega) (by omega)).mp h4))
    have hgw : ¬ w ≤ g := fun z => h4 (nI_le z (by omega))
    refine g_get rfl rfl rfl hP.1 rfl ?_
    refine mo_ald hP 1 rfl rfl rfl rfl (show g < 48 by omega) (by decide) rfl ?_
    refine g_br rfl rfl rfl rfl rfl rfl (fun h5 => ?_) (fun h5 => ?_)
    · refine g_clV rfl rfl rfl rfl hP.1 rfl rfl rfl ?_
      refine mo_has hP hr hr2 hb hbm hm hm2 ?_
      refine g_br rfl rfl rfl rfl rfl rfl (fun h6 => ?_) (fun h6 => ?_)
      · refine no (fun z => ?_)
        have e0 := (mo_n0 hhs).mp h6
        rcases (z.2 h2).1 with z2 | z2 | z2
        · exact hgw z2
        · exact z2 h5
        · omega
      · refine second (Or.inr (Or.inr ?_))
        rcases Nat.eq_zero_or_pos (mo_hs A I b m g) with z | z
        · exact absurd ((mo_n0 hhs).mpr z) h6
        · exact z
    · exact second (Or.inr (Or.inl h5))
set_option maxRecDepth 100000 in
set_option maxHeartbeats 1000000 in
/-- comes(f, v, group) -/
theorem mo_comes {f v gb : Int32} {n b m r : Nat} (hW : mo_W o A I σ0 σ) (hI : I 4 = nI n) (hn : n ≤ 48) (hr : I 11 = nI r) (hr2 : r ≤ 128) (hb : A 7 r = nI b) (hbm : b ≤ m) (hm : I 9 = nI m) (hm2 : m ≤ 2048) (hin : I 13 = -1 ∨ ∃ q, q < m ∧ I 13 = nI q)
    (kno : ¬ mo_may A I n b m f gb → Q (some (.int 0)) σ)
    (kyes : ∀ σ' : ri_S, mo_may A I n b m f gb → mo_W o (va_up (va_up (va_up A 4 (upd (A 4) m f)) 5 (upd (A 5) m v)) 6 (upd (A 6) m (I 13))) (va_up I 9 (nI (m + 1))) σ0 σ' → Q (some (.int 1)) σ') :
    ev_W (d + 2) mMo_comes (0, [some (.ref o), some (.int f), some (.int v), some (.int gb), none, none], []) σ Q := by
  have hP := hW.1
  refine g_get rfl rfl rfl hP.1 rfl ?_
  refine g_br rfl rfl rfl rfl rfl rfl (fun h1 => ?_) (fun h1 => ?_)
  · exact g_rt rfl rfl rfl (kno (fun q => q.1 h1))
  refine g_clV rfl rfl rfl rfl hP.1 rfl rfl rfl ?_
  refine mo_isField hP (fun z1 z2 => ?_) (fun z0 => ?_)
  rotate_left
  · refine g_br rfl rfl rfl rfl rfl rfl (fun h => ?_) (fun h => absurd rfl h)
    refine g_rt rfl rfl rfl (kno (fun q => ?_))
    obtain ⟨-, w, hw, e, -⟩ := q
    refine z0 ⟨?_, ?_⟩
    · rw [e]; exact nI_pos' (by omega)
    · rw [e, hI]; exact nI_lt hw (by omega)
  obtain ⟨w, hw, e⟩ : ∃ w, w < n ∧ f = nI w := by
    obtain ⟨w, hw, e⟩ := nI_of (Int32.not_lt.mpr z1)
    rw [e, hI] at z2
    exact ⟨w, (nI_ltI hw (by omega)).mp z2, e⟩
  subst e
  have inj : ∀ w', w' < n → nI w = nI w' → w' = w := fun w' h' e' => ((nI_eq (by omega) (by omega)).mp e').symm
  refine g_br rfl rfl rfl rfl rfl rfl (fun h => absurd h (by decide)) (fun h => ?_)
  refine g_get rfl rfl rfl hP.1 rfl ?_
  refine mo_zld hP 3 rfl rfl rfl rfl (show w < 48 by omega) (by decide) rfl ?_
  refine g_br rfl rfl rfl rfl rfl rfl (fun h2 => ?_) (fun h2 => ?_)
  rotate_left
  · refine g_rt rfl rfl rfl (kno (fun q => ?_))
    obtain ⟨-, w', hw', e', q2, -⟩ := q
    rw [inj w' hw' e'] at q2
    exact h2 q2
  refine g_get rfl rfl rfl hP.1 rfl ?_
  refine mo_ald hP 0 rfl rfl rfl rfl (show w < 48 by omega) (by decide) rfl ?_
  refine g_get rfl rfl rfl hP.1 rfl ?_
  have third : ∀ x : Int32, x = mo_ps A I → ev_W (d + 2) mMo_comes (52, [some (.ref o), some (.int (nI w)), some (.int v), some (.int gb), none, none], [.int x, .int (A 0 w)]) σ Q := by
    intro x hx
    subst hx
    refine g_br rfl rfl rfl rfl rfl rfl (fun h3 => ?_) (fun h3 => ?_)
    rotate_left
    · refine g_rt rfl rfl rfl (kno (fun q => ?_))
      obtain ⟨-, w', hw', e', -, q2, -⟩ := q
      rw [inj w' hw' e'] at q2
      exact h3 q2
    refine g_get rfl rfl rfl hP.1 rfl ?_
    refine g_br rfl rfl rfl rfl rfl rfl (fun h4 => ?_) (fun h4 => ?_)
    · refine g_rt rfl rfl rfl (kno (fun q => ?_))
      obtain ⟨-, w', hw', e', -, -, q2, -⟩ := q
      rw [hm] at h4
      have := (nI_eq (by omega) (by decide)).mp (show nI m = nI 2048 from h4)
      omega
    have hm3 : m < 2048 := by
      rcases Nat.lt_or_ge m 2048 with z | z
      · exact z
      · exact absurd (by rw [hm, show m = 2048 by omega]; rfl) h4
    have loop : (A 1 w = 2 ∨ mo_hs A I b m w = 0) → ev_W (d + 2) mMo_comes (85, [some (.ref o), some (.int (nI w)), some (.int v), some (.int gb), none, none], []) σ Q := by
      intro hq
      refine ev_go 4 rfl ?_
      refine mo_comes_loop hP hI hn hw hr hr2 hb hbm hm hm2 (fun x hx hx2 => ?_) n 0 1 (by omega) (Or.inr rfl) ⟨fun _ q h => absurd h (Nat.not_lt_zero _), fun _ => rfl⟩
      refine g_br rfl rfl rfl rfl rfl rfl (fun h5 => ?_) (fun h5 => ?_)
      · refine g_rt rfl rfl rfl (kno (fun q => ?_))
        obtain ⟨-, w', hw', e', -, -, -, -, q2⟩ := q
        rw [inj w' hw' e'] at q2
        have := hx2.mpr q2
        rw [h5] at this
        exact absurd this (by decide)
      have e1 : x = 1 := by
        rcases hx with q | q
        · exact absurd q h5
        · exact q
      have all : mo_may A I n b m (nI w) gb := ⟨h1, w, hw, rfl, h2, h3, hm3, hq, hx2.mp e1⟩
      refine g_get rfl rfl rfl hP.1 rfl ?_
      refine g_get rfl rfl rfl hP.1 rfl ?_
      refine mo_ast hW 4 rfl rfl rfl hm hm3 (by decide) rfl (fun σ1 hW1 => ?_)
      refine g_get rfl rfl rfl hW1.1.1 rfl ?_
      refine g_get rfl rfl rfl hW1.1.1 rfl ?_
      refine mo_ast hW1 5 rfl rfl rfl hm hm3 (by decide) rfl (fun σ2 hW2 => ?_)
      refine g_get rfl rfl rfl hW2.1.1 rfl ?_
      refine g_get rfl rfl rfl hW2.1.1 rfl ?_
      refine g_get rfl rfl rfl hW2.1.1 rfl ?_
      refine mo_ast hW2 6 rfl rfl rfl hm hm3 (by decide) rfl (fun σ3 hW3 => ?_)
      refine g_get rfl rfl rfl hW3.1.1 rfl ?_
      refine mo_set hW3 rfl rfl rfl rfl rfl rfl rfl (fun σ4 hW4 => ?_)
      refine g_rt rfl rfl rfl (kyes σ4 all ?_)
      rw [← nI_1, ← hm]
      exact hW4
    refine g_get rfl rfl rfl hP.1 rfl ?_
    refine mo_ald hP 1 rfl rfl rfl rfl (show w < 48 by omega) (by decide) rfl ?_
    refine g_br rfl rfl rfl rfl rfl rfl (fun h5 => ?_) (fun h5 => ?_)
    · exact loop (Or.inl h5)
    · refine g_clV rfl rfl rfl rfl hP.1 rfl rfl rfl ?_
      refine mo_has hP hr hr2 hb hbm hm hm2 ?_
      have hhs : mo_hs A I b m w < 2 ^ 31 := mo_hs_lt hm2
      refine g_br rfl rfl rfl rfl rfl rfl (fun h6 => ?_) (fun h6 => ?_)
      · exact loop (Or.inr ((mo_n0 hhs).mp h6))
      · refine g_rt rfl rfl rfl (kno (fun q => ?_))
        obtain ⟨-, w', hw', e', -, -, -, q2, -⟩ := q
        rw [inj w' hw' e'] at q2
        rcases q2 with q2 | q2
        · exact h5 q2
        · exact h6 ((mo_n0 hhs).mpr q2)
  refine g_br rfl rfl rfl rfl rfl rfl (fun h3 => ?_) (fun h3 => ?_)
  · refine ev_go 2 rfl ?_
    exact third (-1) (by unfold mo_ps; rw [if_pos h3])
  · obtain ⟨q, hq, eq⟩ : ∃ q, q < m ∧ I 13 = nI q := by
      rcases hin with z | z
      · exact absurd z h3
      · exact z
    refine g_get rfl rfl rfl hP.1 rfl ?_
    refine g_get rfl rfl rfl hP.1 rfl ?_
    refine mo_ald hP 4 rfl rfl rfl eq (show q < 2048 by omega) (by decide) rfl ?_
    exact third (A 4 q) (by unfold mo_ps; rw [if_neg h3, eq, nI_clamp (by omega)])
end MO5
end
section
/-! THE REFERENCE: open, leaf, close. -/
/-- the open group, or the record, may end -/
def mo_end (A : Nat → Nat → Int32) (I : Nat → Int32) (n b m : Nat) : Prop := ∀ g, g < n → A 0 g = mo_ps A I → A 1 g = 0 → 0 < mo_hs A I b m g
section MO6
variable {d o : Nat} {A : Nat → Nat → Int32} {I : Nat → Int32} {σ0 σ : ri_S} {Q : Option Value → ri_S → Prop}
set_option maxRecDepth 100000 in
/-- leaf(f, v) -/
theorem mo_leaf {f v : Int32} {n b m r : Nat} (hW : mo_W o A I σ0 σ) (hI : I 4 = nI n) (hn : n ≤ 48) (hr : I 11 = nI r) (hr2 : r ≤ 128) (hb : A 7 r = nI b) (hbm : b ≤ m) (hm : I 9 = nI m) (hm2 : m ≤ 2048) (hin : I 13 = -1 ∨ ∃ q, q < m ∧ I 13 = nI q)
    (kno : ¬ mo_may A I n b m f 0 → Q (some (.int 0)) σ)
    (kyes : ∀ σ' : ri_S, mo_may A I n b m f 0 → mo_W o (va_up (va_up (va_up A 4 (upd (A 4) m f)) 5 (upd (A 5) m v)) 6 (upd (A 6) m (I 13))) (va_up I 9 (nI (m + 1))) σ0 σ' → Q (some (.int 1)) σ') :
    ev_W (d + 3) mMo_leaf (0, [some (.ref o), some (.int f), some (.int v)], []) σ Q := by
  refine g_clV rfl rfl rfl rfl hW.1.1 rfl rfl rfl ?_
  refine mo_comes hW hI hn hr hr2 hb hbm hm hm2 hin (fun q => ?_) (fun σ1 q hW1 => ?_)
  · exact g_rt rfl rfl rfl (kno q)
  · exact g_rt rfl rfl rfl (kyes σ1 q hW1)
set_option maxRecDepth 100000 in
/-- open(f) -/
theorem mo_open {f : Int32} {n b m r : Nat} (hW : mo_W o A I σ0 σ) (hI : I 4 = nI n) (hn : n ≤ 48) (hr : I 11 = nI r) (hr2 : r ≤ 128) (hb : A 7 r = nI b) (hbm : b ≤ m) (hm : I 9 = nI m) (hm2 : m ≤ 2048) (hin : I 13 = -1 ∨ ∃ q, q < m ∧ I 13 = nI q)
    (kno : ¬ mo_may A I n b m f 1 → Q (some (.int 0)) σ)
    (kyes : ∀ σ' : ri_S, mo_may A I n b m f 1 → mo_W o (va_up (va_up (va_up A 4 (upd (A 4) m f)) 5 (upd (A 5) m 0)) 6 (upd (A 6) m (I 13))) (va_up (va_up I 9 (nI (m + 1))) 13 (nI m)) σ0 σ' → Q (some (.int 1)) σ') :
    ev_W (d + 3) mMo_open (0, [some (.ref o), some (.int f)], []) σ Q := by
  refine g_clV rfl rfl rfl rfl hW.1.1 rfl rfl rfl ?_
  refine mo_comes hW hI hn hr hr2 hb hbm hm hm2 hin (fun q => ?_) (fun σ1 q hW1 => ?_)
  · refine g_br rfl rfl rfl rfl rfl rfl (fun h => ?_) (fun h => absurd rfl h)
    exact g_rt rfl rfl rfl (kno q)
  · refine g_br rfl rfl rfl rfl rfl rfl (fun h => absurd h (by decide)) (fun h => ?_)
    refine g_get rfl rfl rfl hW1.1.1 rfl ?_
    refine mo_set hW1 rfl rfl rfl rfl rfl rfl rfl (fun σ2 hW2 => ?_)
    refine g_rt rfl rfl rfl (kyes σ2 q ?_)
    rw [← show nI (m + 1) - 1 = nI m from nI_pred m]
    exact hW2
set_option maxRecDepth 100000 in
theorem mo_close_loop {ps : Int32} {n b m r : Nat} (hP : mo_P o A I σ.1) (hI : I 4 = nI n) (hn : n ≤ 48) (hr : I 11 = nI r) (hr2 : r ≤ 128) (hb : A 7 r = nI b) (hbm : b ≤ m) (hm : I 9 = nI m) (hm2 : m ≤ 2048) (hps : ps = mo_ps A I)
    (kno : ¬ mo_end A I n b m → Q (some (.int 0)) σ) (kyes : mo_end A I n b m → ev_W (d + 1) mMo_close (76, [some (.ref o), some (.int ps), some (.int (nI n))], []) σ Q) :
    ∀ (t g : Nat), g + t = n → (∀ q, q < g → A 0 q = mo_ps A I → A 1 q = 0 → 0 < mo_hs A I b m q) → ev_W (d + 1) mMo_close (33, [some (.ref o), some (.int ps), some (.int (nI g))], []) σ Q := by
  intro t
  induction t with
  | zero =>
    intro g hg hall
    obtain rfl : g = n := by omega
    refine g_get rfl rfl rfl hP.1 rfl ?_
    refine g_br rfl rfl rfl rfl rfl rfl (fun h1 => ?_) (fun h1 => absurd (by rw [hI]; exact nI_le (Nat.le_refl _) (by omega)) h1)
    exact kyes hall
  | succ t ih =>
    intro g hg hall
    have hhs : mo_hs A I b m g < 2 ^ 31 := mo_hs_lt hm2
    refine g_get rfl rfl rfl hP.1 rfl ?_
    refine g_br rfl rfl rfl rfl rfl rfl (fun h1 => absurd h1 (by rw [hI]; exact nI_ge (by omega) (by omega))) (fun h1 => ?_)
    have nxt : (A 0 g = mo_ps A I → A 1 g = 0 → 0 < mo_hs A I b m g) → ev_W (d + 1) mMo_close (70, [some (.ref o), some (.int ps), some (.int (nI g))], []) σ Q := by
      intro q
      refine ev_go 2 rfl ?_
      show ev_W (d + 1) mMo_close (33, [some (.ref o), some (.int ps), some (.int (nI g + 1))], []) σ Q
      rw [nI_1]
      refine ih (g + 1) (by omega) (fun z hz => ?_)
      rcases Nat.lt_succ_iff_lt_or_eq.mp hz with e | e
      · exact hall z e
      · subst e; exact q
    refine g_get rfl rfl rfl hP.1 rfl ?_
    refine mo_ald hP 0 rfl rfl rfl rfl (show g < 48 by omega) (by decide) rfl ?_
    refine g_br rfl rfl rfl rfl rfl rfl (fun h2 => ?_) (fun h2 => ?_)
    rotate_left
    · exact nxt (fun z => absurd (z.trans hps.symm) h2)
    refine g_get rfl rfl rfl hP.1 rfl ?_
    refine mo_ald hP 1 rfl rfl rfl rfl (show g < 48 by omega) (by decide) rfl ?_
    refine g_br rfl rfl rfl rfl rfl rfl (fun h3 => ?_) (fun h3 => ?_)
    rotate_left
    · exact nxt (fun _ z => absurd z h3)
    refine g_clV rfl rfl rfl rfl hP.1 rfl rfl rfl ?_
    refine mo_has hP hr hr2 hb hbm hm hm2 ?_
    refine g_br rfl rfl rfl rfl rfl rfl (fun h4 => ?_) (fun h4 => ?_)
    · refine g_rt rfl rfl rfl (kno (fun z => ?_))
      have := z g (by omega) (h2.trans hps) h3
      have e0 := (mo_e0 hhs).mp h4
      omega
    · refine nxt (fun _ _ => ?_)
      rcases Nat.eq_zero_or_pos (mo_hs A I b m g) with z | z
      · exact absurd ((mo_e0 hhs).mpr z) h4
      · exact z
set_option maxRecDepth 100000 in
/-- close() -/
theorem mo_close {n b m r : Nat} (hW : mo_W o A I σ0 σ) (hI : I 4 = nI n) (hn : n ≤ 48) (hr : I 11 = nI r) (hr2 : r ≤ 128) (hr3 : ¬ I 12 = 0 → r < 128) (hb : A 7 r = nI b) (hbm : b ≤ m) (hm : I 9 = nI m) (hm2 : m ≤ 2048) (hin : I 13 = -1 ∨ ∃ q, q < m ∧ I 13 = nI q)
    (kno : ¬ (¬ I 12 = 0 ∧ mo_end A I n b m) → Q (some (.int 0)) σ)
    (krec : ∀ σ' : ri_S, ¬ I 12 = 0 → mo_end A I n b m → I 13 = -1 → mo_W o (va_up A 7 (upd (A 7) (r + 1) (nI m))) (va_up (va_up I 12 0) 11 (nI (r + 1))) σ0 σ' → Q (some (.int 1)) σ')
    (kgrp : ∀ (σ' : ri_S) (q : Nat), ¬ I 12 = 0 → mo_end A I n b m → q < m → I 13 = nI q → mo_W o A (va_up I 13 (A 6 q)) σ0 σ' → Q (some (.int 1)) σ') :
    ev_W (d + 1) mMo_close (0, [some (.ref o), none, none], []) σ Q := by
  have hP := hW.1
  refine g_get rfl rfl rfl hP.1 rfl ?_
  refine g_br rfl rfl rfl rfl rfl rfl (fun h1 => ?_) (fun h1 => ?_)
  · exact g_rt rfl rfl rfl (kno (fun q => q.1 h1))
  refine g_get rfl rfl rfl hP.1 rfl ?_
  have loop : ∀ x : Int32, x = mo_ps A I → ev_W (d + 1) mMo_close (30, [some (.ref o), none, none], [.int x]) σ Q := by
    intro x hx
    refine ev_go 3 rfl ?_
    refine mo_close_loop hP hI hn hr hr2 hb hbm hm hm2 hx (fun q => kno (fun z => q z.2)) (fun q => ?_) n 0 (by omega) (fun z hz => absurd hz (Nat.not_lt_zero _))
    refine g_get rfl rfl rfl hP.1 rfl ?_
    refine g_br rfl rfl rfl rfl rfl rfl (fun h2 => ?_) (fun h2 => ?_)
    · refine mo_set hW rfl rfl rfl rfl rfl rfl rfl (fun σ1 hW1 => ?_)
      refine g_get rfl rfl rfl hW1.1.1 rfl ?_
      refine mo_set hW1 rfl rfl rfl rfl rfl rfl rfl (fun σ2 hW2 => ?_)
      refine g_get rfl rfl rfl hW2.1.1 rfl ?_
      refine g_get rfl rfl rfl hW2.1.1 rfl ?_
      refine g_get rfl rfl rfl hW2.1.1 rfl ?_
      have e : I 11 + 1 = nI (r + 1) := by rw [hr]; exact nI_1 r
      refine mo_ast hW2 7 rfl rfl rfl (i := r + 1) e (show r + 1 < 129 by have := hr3 h1; omega) (by decide) rfl (fun σ3 hW3 => ?_)
      refine g_rt rfl rfl rfl (krec σ3 h1 q h2 ?_)
      rw [← e, ← hm]
      exact hW3
    · obtain ⟨w, hw, ew⟩ : ∃ w, w < m ∧ I 13 = nI w := by
        rcases hin with z | z
        · exact absurd z h2
        · exact z
      refine g_get rfl rfl rfl hP.1 rfl ?_
      refine g_get rfl rfl rfl hP.1 rfl ?_
      refine mo_ald hP 6 rfl rfl rfl ew (show w < 2048 by omega) (by decide) rfl ?_
      refine mo_set hW rfl rfl rfl rfl rfl rfl rfl (fun σ1 hW1 => ?_)
      exact g_rt rfl rfl rfl (kgrp σ1 w h1 q hw ew hW1)
  refine g_br rfl rfl rfl rfl rfl rfl (fun h3 => ?_) (fun h3 => ?_)
  · refine ev_go 2 rfl ?_
    exact loop (-1) (by unfold mo_ps; rw [if_pos h3])
  · obtain ⟨q, hq, eq⟩ : ∃ q, q < m ∧ I 13 = nI q := by
      rcases hin with z | z
      · exact absurd z h3
      · exact z
    refine g_get rfl rfl rfl hP.1 rfl ?_
    refine g_get rfl rfl rfl hP.1 rfl ?_
    refine mo_ald hP 4 rfl rfl rfl eq (show q < 2048 by omega) (by decide) rfl ?_
    exact loop (A 4 q) (by unfold mo_ps; rw [if_neg h3, eq, nI_clamp (by omega)])
end MO6
end
section
/-! THE REFERENCE: its making, next, wants. -/
theorem ri_up_s {h : Nat → Option ri_E} {a : Nat} {e : ri_E} : ri_up h a e a = some e := if_pos rfl
theorem ri_up_n {h : Nat → Option ri_E} {a q : Nat} {e : ri_E} (hq : q ≠ a) : ri_up h a e q = h q := if_neg hq
/-- the reference half made: k arrays stand -/
def mi_P (o k : Nat) (fs : List Value) (sl : Nat) (σ0 σ : ri_S) : Prop := σ.1 o = some (.inr (5, fs)) ∧ (∀ j, j < k → σ.1 (o + 1 + j) = some (.inl (mo_ty j, mo_len j, .inl fun _ => 0))) ∧ σ.2.1 = o + 1 + k ∧ σ.2.2 = sl ∧ ∀ a, a < o → σ.1 a = σ0.1 a
section MI
variable {d o k : Nat} {fs : List Value} {sl : Nat} {σ0 σ : ri_S} {Q : Option Value → ri_S → Prop} {M : ri_M} {F : ri_F} {pc np np2 tg tg2 : Nat} {kv kv2 : Int32} {L : List (Option Value)} {r : List Value}
theorem mi_put {j kf : Nat} {ty : FieldType} (hP : mi_P o k fs sl σ0 σ) (t : FieldType) (N : Nat) (ht : t = mo_ty k) (hN : N = mo_len k) (hf2 : ri_find np M.2.2.2.2.2 = some (.putfield kf, np2, tg2, kv2)) (hft : rt_f M.1 kf = some (5, j, .array ty, 1)) (hi : M.2.1.name = "<init>") (hj : Nat.blt j fs.length = true) (kk : ∀ σ' : ri_S, mi_P o (k + 1) (fs.set j (.ref (o + 1 + k))) (sl + N) σ0 σ' → ev_W d M (np2, L, r) σ' Q) :
    ev_W d M (np, L, .ref σ.2.1 :: .ref o :: r) (ri_up σ.1 σ.2.1 (.inl (t, N, .inl fun _ => 0)), σ.2.1 + 1, σ.2.2 + N) Q := by
  obtain ⟨h1, h2, h3, h4, h5⟩ := hP
  subst ht
  subst hN
  have ho : ri_up σ.1 σ.2.1 (.inl (mo_ty k, mo_len k, .inl fun _ => 0)) o = some (.inr (5, fs)) := by
    rw [ri_up_n (by omega)]; exact h1
  refine ev_putF hf2 hft hi ho rfl rfl hj ?_
  refine kk _ ⟨?_, fun q hq => ?_, ?_, ?_, fun a ha => ?_⟩
  · show ri_up _ _ _ o = _
    rw [ri_up_s, h3]
  · show ri_up _ _ _ (o + 1 + q) = _
    rw [ri_up_n (by omega)]
    by_cases e : q = k
    · subst e
      show ri_up _ _ _ _ = _
      rw [h3, ri_up_s]
    · show ri_up _ _ _ _ = _
      rw [ri_up_n (by omega)]
      exact h2 q (by omega)
  · show σ.2.1 + 1 = _
    omega
  · show σ.2.2 + _ = _
    rw [h4]
  · show ri_up _ _ _ a = _
    rw [ri_up_n (by omega)]
    show ri_up _ _ _ a = _
    rw [ri_up_n (by omega)]
    exact h5 a ha
theorem mi_i {n : Int32} {j kf : Nat} {ty : FieldType} (hP : mi_P o k fs sl σ0 σ) (hgo : ri_go 99 M F = (pc, L, .int n :: .ref o :: r)) (hf : ri_find pc M.2.2.2.2.2 = some (.newarray .int, np, tg, kv)) (hn : ¬ n < 0) (hN : n.toNatClampNeg = mo_len k) (ht : FieldType.int = mo_ty k) (hf2 : ri_find np M.2.2.2.2.2 = some (.putfield kf, np2, tg2, kv2)) (hft : rt_f M.1 kf = some (5, j, .array ty, 1)) (hi : M.2.1.name = "<init>") (hj : Nat.blt j fs.length = true) (kk : ∀ σ' : ri_S, mi_P o (k + 1) (fs.set j (.ref (o + 1 + k))) (sl + mo_len k) σ0 σ' → ev_W d M (np2, L, r) σ' Q) : ev_W d M F σ Q :=
  g_newi hgo hf hn hN (by unfold mo_len; split <;> decide) (mi_put hP _ _ ht rfl hf2 hft hi hj kk)
theorem mi_z {n : Int32} {j kf : Nat} {ty : FieldType} (hP : mi_P o k fs sl σ0 σ) (hgo : ri_go 99 M F = (pc, L, .int n :: .ref o :: r)) (hf : ri_find pc M.2.2.2.2.2 = some (.newarray .boolean, np, tg, kv)) (hn : ¬ n < 0) (hN : n.toNatClampNeg = mo_len k) (ht : FieldType.boolean = mo_ty k) (hf2 : ri_find np M.2.2.2.2.2 = some (.putfield kf, np2, tg2, kv2)) (hft : rt_f M.1 kf = some (5, j, .array ty, 1)) (hi : M.2.1.name = "<init>") (hj : Nat.blt j fs.length = true) (kk : ∀ σ' : ri_S, mi_P o (k + 1) (fs.set j (.ref (o + 1 + k))) (sl + mo_len k) σ0 σ' → ev_W d M (np2, L, r) σ' Q) : ev_W d M F σ Q :=
  g_newz hgo hf hn hN (by unfold mo_len; split <;> decide) (mi_put hP _ _ ht rfl hf2 hft hi hj kk)
theorem mi_n {v : Int32} {j kf : Nat} {ty : FieldType} (hP : mi_P o k fs sl σ0 σ) (hgo : ri_go 99 M F = (pc, L, .int v :: .ref o :: r)) (hf : ri_find pc M.2.2.2.2.2 = some (.putfield kf, np, tg, kv)) (hft : rt_f M.1 kf = some (5, j, ty, 0)) (hn : narrow ty (.int v) = .int v) (hfi : fits ty (.int v) = true) (hj : Nat.blt j fs.length = true) (kk : ∀ σ' : ri_S, mi_P o k (fs.set j (.int v)) sl σ0 σ' → ev_W d M (np, L, r) σ' Q) : ev_W d M F σ Q :=
  g_put hgo hf hft hP.1 hn hfi hj (kk _ ⟨ri_up_s, fun q hq => (ri_up_n (by omega)).trans (hP.2.1 q hq), hP.2.2.1, hP.2.2.2.1, fun a ha => (ri_up_n (by omega)).trans (hP.2.2.2.2 a ha)⟩)
end MI
/-- the numbers of a new one -/
def mo_I0 : Nat → Int32 := fun j => if j = 13 then -1 else 0
section MI2
variable {d o : Nat} {σ0 σ : ri_S} {Q : Option Value → ri_S → Prop}
set_option maxRecDepth 100000 in
set_option maxHeartbeats 1000000 in
/-- the constructor -/
theorem mo_init {sl : Nat} (hP : mi_P o 0 [.null, .null, .null, .null, .int 0, .int 0, .null, .null, .null, .int 0, .null, .int 0, .int 0, .int 0, .null, .null, .int 0, .int 0, .int 0, .int 0, .null, .null, .null, .int 0, .int 0] sl σ0 σ)
    (kk : ∀ σ' : ri_S, mo_P o (fun _ _ => 0) mo_I0 σ'.1 → σ'.2.1 = o + 14 → σ'.2.2 = sl + 14739 → (∀ a, a < o → σ'.1 a = σ0.1 a) → Q none σ') : ev_W (d + 1) mMo_init (0, [some (.ref o)], []) σ Q := by
  refine g_lf rfl rfl rfl rfl rfl ?_
  refine mi_i hP rfl rfl (by decide) rfl rfl rfl rfl rfl rfl (fun σ1 hP => ?_)
  refine mi_i hP rfl rfl (by decide) rfl rfl rfl rfl rfl rfl (fun σ1 hP => ?_)
  refine mi_i hP rfl rfl (by decide) rfl rfl rfl rfl rfl rfl (fun σ1 hP => ?_)
  refine mi_z hP rfl rfl (by decide) rfl rfl rfl rfl rfl rfl (fun σ1 hP => ?_)
  refine mi_i hP rfl rfl (by decide) rfl rfl rfl rfl rfl rfl (fun σ1 hP => ?_)
  refine mi_i hP rfl rfl (by decide) rfl rfl rfl rfl rfl rfl (fun σ1 hP => ?_)
  refine mi_i hP rfl rfl (by decide) rfl rfl rfl rfl rfl rfl (fun σ1 hP => ?_)
  refine mi_i hP rfl rfl (by decide) rfl rfl rfl rfl rfl rfl (fun σ1 hP => ?_)
  refine mi_n hP rfl rfl rfl rfl rfl rfl (fun σ1 hP => ?_)
  refine mi_i hP rfl rfl (by decide) rfl rfl rfl rfl rfl rfl (fun σ1 hP => ?_)
  refine mi_i hP rfl rfl (by decide) rfl rfl rfl rfl rfl rfl (fun σ1 hP => ?_)
  refine mi_z hP rfl rfl (by decide) rfl rfl rfl rfl rfl rfl (fun σ1 hP => ?_)
  refine mi_i hP rfl rfl (by decide) rfl rfl rfl rfl rfl rfl (fun σ1 hP => ?_)
  refine mi_i hP rfl rfl (by decide) rfl rfl rfl rfl rfl rfl (fun σ1 hP => ?_)
  refine g_rt rfl rfl rfl (kk σ1 ⟨hP.1, hP.2.1⟩ hP.2.2.1 hP.2.2.2.1 hP.2.2.2.2)
end MI2
end
section
/-! THE REFERENCE: next, deeper, goesTo. -/
/-- the first of the t occurrences from k on that is of w and lies in ins; -1: none -/
def mo_nx (ofs aro : Nat → Int32) (w ins : Int32) : Nat → Nat → Int32
  | 0, _ => -1
  | t + 1, k => if ofs k = w ∧ aro k = ins then nI k else mo_nx ofs aro w ins t (k + 1)
theorem mo_nx_or (ofs aro : Nat → Int32) (w ins : Int32) : ∀ t k, mo_nx ofs aro w ins t k = -1 ∨ ∃ q, k ≤ q ∧ q < k + t ∧ mo_nx ofs aro w ins t k = nI q ∧ ofs q = w ∧ aro q = ins
  | 0, k => Or.inl rfl
  | t + 1, k => by
    unfold mo_nx
    by_cases h : ofs k = w ∧ aro k = ins
    · rw [if_pos h]
      exact Or.inr ⟨k, Nat.le_refl _, by omega, rfl, h.1, h.2⟩
    · rw [if_neg h]
      rcases mo_nx_or ofs aro w ins t (k + 1) with q | ⟨q, q1, q2, q3⟩
      · exact Or.inl q
      · exact Or.inr ⟨q, by omega, by omega, q3⟩
/-- the way down from at i on: the occurrences gone into, and how far -/
def mo_dp (ofs aro way : Nat → Int32) (e : Nat) : Nat → (Nat → Int32) → Nat → (Nat → Int32) × Nat
  | 0, at_, i => (at_, i)
  | t + 1, at_, i => if mo_nx ofs aro (way (i + 1)) (at_ i) (e - ((at_ i).toNatClampNeg + 1)) ((at_ i).toNatClampNeg + 1) = -1 then (upd at_ (i + 1) (-1), i) else mo_dp ofs aro way e t (upd at_ (i + 1) (mo_nx ofs aro (way (i + 1)) (at_ i) (e - ((at_ i).toNatClampNeg + 1)) ((at_ i).toNatClampNeg + 1))) (i + 1)
section MO8
variable {d o : Nat} {A : Nat → Nat → Int32} {I : Nat → Int32} {σ0 σ : ri_S} {Q : Option Value → ri_S → Prop}
set_option maxRecDepth 100000 in
theorem mo_next_loop {rc fr ins : Int32} {u q e : Nat} (hP : mo_P o A I σ.1) (hrc : rc + 1 = nI u) (hu : u < 129) (he : A 7 u = nI e) (he2 : e ≤ 2048) (hq : q < 17) : ∀ (t k : Nat), k + t = e ∨ (e ≤ k ∧ t = 0 ∧ k ≤ 2048) → Q (some (.int (mo_nx (A 4) (A 6) (A 8 q) ins t k))) σ → ev_W d mMo_next (21, [some (.ref o), some (.int rc), some (.int (nI q)), some (.int fr), some (.int ins), some (.int (nI k))], []) σ Q := by
  intro t
  induction t with
  | zero =>
    intro k hk kk
    refine g_get rfl rfl rfl hP.1 rfl ?_
    refine mo_ald hP 7 rfl rfl rfl hrc hu (by decide) rfl ?_
    rw [he]
    refine g_br rfl rfl rfl rfl rfl rfl (fun h1 => ?_) (fun h1 => absurd (nI_le (by omega) (by omega)) h1)
    exact g_rt rfl rfl rfl kk
  | succ t ih =>
    intro k hk kk
    refine g_get rfl rfl rfl hP.1 rfl ?_
    refine mo_ald hP 7 rfl rfl rfl hrc hu (by decide) rfl ?_
    rw [he]
    refine g_br rfl rfl rfl rfl rfl rfl (fun h1 => absurd h1 (nI_ge (by omega) (by omega))) (fun h1 => ?_)
    unfold mo_nx at kk
    refine g_get rfl rfl rfl hP.1 rfl ?_
    refine mo_ald hP 4 rfl rfl rfl rfl (show k < 2048 by omega) (by decide) rfl ?_
    refine g_get rfl rfl rfl hP.1 rfl ?_
    refine mo_ald hP 8 rfl rfl rfl rfl hq (by decide) rfl ?_
    have nxt : ¬ (A 4 k = A 8 q ∧ A 6 k = ins) → ev_W d mMo_next (65, [some (.ref o), some (.int rc), some (.int (nI q)), some (.int fr), some (.int ins), some (.int (nI k))], []) σ Q := by
      intro z
      rw [if_neg z] at kk
      refine ev_go 2 rfl ?_
      show ev_W d mMo_next (21, [some (.ref o), some (.int rc), some (.int (nI q)), some (.int fr), some (.int ins), some (.int (nI k + 1))], []) σ Q
      rw [nI_1]
      exact ih (k + 1) (by omega) kk
    refine g_br rfl rfl rfl rfl rfl rfl (fun h2 => ?_) (fun h2 => ?_)
    · refine g_get rfl rfl rfl hP.1 rfl ?_
      refine mo_ald hP 6 rfl rfl rfl rfl (show k < 2048 by omega) (by decide) rfl ?_
      refine g_br rfl rfl rfl rfl rfl rfl (fun h3 => ?_) (fun h3 => ?_)
      · rw [if_pos ⟨h2, h3⟩] at kk
        exact g_rt rfl rfl rfl kk
      · exact nxt (fun z => h3 z.2)
    · exact nxt (fun z => h2 z.1)
/-- in what a step of the way is sought -/
def mo_ins (at_ : Nat → Int32) (q : Nat) : Int32 := match q with
  | 0 => -1
  | q + 1 => at_ q
set_option maxRecDepth 100000 in
/-- next(record, i, from) -/
theorem mo_next {rc iv fr : Int32} {u q e k : Nat} (hP : mo_P o A I σ.1) (hrc : rc + 1 = nI u) (hu : u < 129) (he : A 7 u = nI e) (he2 : e ≤ 2048) (hi : iv = nI q) (hq : q < 17) (hf : fr = nI k) (hk : k ≤ 2048) (kk : Q (some (.int (mo_nx (A 4) (A 6) (A 8 q) (mo_ins (A 9) q) (e - k) k))) σ) : ev_W d mMo_next (0, [some (.ref o), some (.int rc), some (.int iv), some (.int fr), none, none], []) σ Q := by
  subst hi
  subst hf
  have go : ∀ x : Int32, x = mo_ins (A 9) q → ev_W d mMo_next (16, [some (.ref o), some (.int rc), some (.int (nI q)), some (.int (nI k)), none, none], [.int x]) σ Q := by
    intro x hx
    subst hx
    refine ev_go 3 rfl ?_
    refine mo_next_loop hP hrc hu he he2 hq (e - k) k ?_ kk
    rcases Nat.le_total k e with z | z
    · exact Or.inl (by omega)
    · exact Or.inr ⟨z, by omega, hk⟩
  refine g_br rfl rfl rfl rfl rfl rfl (fun h1 => ?_) (fun h1 => ?_)
  · have e0 := (mo_e0 (show q < 2 ^ 31 by omega)).mp h1
    subst e0
    refine ev_go 2 rfl ?_
    exact go (-1) rfl
  · cases q with
    | zero => exact absurd rfl h1
    | succ q =>
      refine g_get rfl rfl rfl hP.1 rfl ?_
      refine mo_ald hP 9 rfl rfl rfl (nI_pred q) (show q < 17 by omega) (by decide) rfl ?_
      exact go (A 9 q) rfl
end MO8
end
section
/-! THE REFERENCE: deeper, goesTo. -/
section MO9
variable {d o : Nat} {A : Nat → Nat → Int32} {I : Nat → Int32} {σ0 σ : ri_S} {Q : Option Value → ri_S → Prop}
set_option maxRecDepth 100000 in
theorem mo_deeper_loop {rc fr : Int32} {u e s : Nat} (hs : I 16 = nI s) (hs2 : s ≤ 16) (hrc : rc + 1 = nI u) (hu : u < 129) (he : A 7 u = nI e) (he2 : e ≤ 2048) : ∀ (t i : Nat) (at_ : Nat → Int32) (σ : ri_S), i + 1 + t = s → (∃ p, p < e ∧ at_ i = nI p) → mo_W o (va_up A 9 at_) I σ0 σ →
    (∀ σ' : ri_S, mo_W o (va_up A 9 (mo_dp (A 4) (A 6) (A 8) e t at_ i).1) I σ0 σ' → Q (some (.int (nI (mo_dp (A 4) (A 6) (A 8) e t at_ i).2))) σ') → ev_W (d + 1) mMo_deeper (2, [some (.ref o), some (.int rc), some (.int fr), some (.int (nI i))], []) σ Q := by
  intro t
  induction t with
  | zero =>
    intro i at_ σ hi hp hW kk
    have e1 : nI i + 1 = nI s := by rw [nI_1, show i + 1 = s by omega]
    refine g_get rfl rfl rfl hW.1.1 rfl ?_
    refine g_br rfl rfl rfl rfl rfl rfl (fun h1 => ?_) (fun h1 => absurd (by rw [hs, e1]; exact nI_le (Nat.le_refl _) (by omega)) h1)
    exact g_rt rfl rfl rfl (kk σ hW)
  | succ t ih =>
    intro i at_ σ hi hp hW kk
    obtain ⟨p, hp, ep⟩ := hp
    have hp31 : p < 2 ^ 31 := by omega
    refine g_get rfl rfl rfl hW.1.1 rfl ?_
    refine g_br rfl rfl rfl rfl rfl rfl (fun h1 => absurd h1 (by rw [hs, nI_1]; exact nI_ge (by omega) (by omega))) (fun h1 => ?_)
    refine g_get rfl rfl rfl hW.1.1 rfl ?_
    refine g_get rfl rfl rfl hW.1.1 rfl ?_
    refine mo_ald hW.1 9 rfl rfl rfl rfl (show i < 17 by omega) (by decide) rfl ?_
    refine g_clV rfl rfl rfl rfl hW.1.1 rfl rfl rfl ?_
    have ex : (va_up A 9 at_ 9 i) + 1 = nI (p + 1) := by show at_ i + 1 = _; rw [ep]; exact nI_1 p
    refine mo_next (e := e) hW.1 hrc hu he he2 (nI_1 i) (show i + 1 < 17 by omega) ex (by omega) ?_
    unfold mo_dp at kk
    rw [ep, nI_clamp hp31] at kk
    have ein : mo_ins (va_up A 9 at_ 9) (i + 1) = nI p := ep
    rw [ein]
    show ev_W (d + 1) mMo_deeper (35, [some (.ref o), some (.int rc), some (.int fr), some (.int (nI i))], [.int (mo_nx (A 4) (A 6) (A 8 (i + 1)) (nI p) (e - (p + 1)) (p + 1)), .int (nI i + 1), .ref (o + 10)]) σ Q
    have hor := mo_nx_or (A 4) (A 6) (A 8 (i + 1)) (nI p) (e - (p + 1)) (p + 1)
    generalize mo_nx (A 4) (A 6) (A 8 (i + 1)) (nI p) (e - (p + 1)) (p + 1) = x at kk hor ⊢
    refine mo_ast hW 9 rfl rfl rfl (nI_1 i) (show i + 1 < 17 by omega) (by decide) rfl (fun σ1 hW1 => ?_)
    rw [bx_uu] at hW1
    change mo_W o (va_up A 9 (upd at_ (i + 1) x)) I σ0 σ1 at hW1
    refine g_get rfl rfl rfl hW1.1.1 rfl ?_
    refine mo_ald hW1.1 9 rfl rfl rfl (nI_1 i) (show i + 1 < 17 by omega) (by decide) rfl ?_
    have ev : va_up A 9 (upd at_ (i + 1) x) 9 (i + 1) = x := pk_us
    rw [ev]
    refine g_br rfl rfl rfl rfl rfl rfl (fun h2 => ?_) (fun h2 => ?_)
    · rw [if_pos h2] at kk
      refine g_rt rfl rfl rfl (kk σ1 ?_)
      rw [h2] at hW1
      exact hW1
    · rw [if_neg h2] at kk
      refine ev_go 2 rfl ?_
      show ev_W (d + 1) mMo_deeper (2, [some (.ref o), some (.int rc), some (.int fr), some (.int (nI i + 1))], []) σ1 Q
      rw [nI_1]
      refine ih (i + 1) _ σ1 (by omega) ?_ hW1 kk
      rcases hor with z | ⟨q, q1, q2, q3, -⟩
      · exact absurd z h2
      · exact ⟨q, by omega, pk_us.trans q3⟩
set_option maxRecDepth 100000 in
/-- deeper(record, from) -/
theorem mo_deeper {rc fr : Int32} {u e s i : Nat} {at_ : Nat → Int32} (hW : mo_W o (va_up A 9 at_) I σ0 σ) (hs : I 16 = nI s) (hs2 : s ≤ 16) (hrc : rc + 1 = nI u) (hu : u < 129) (he : A 7 u = nI e) (he2 : e ≤ 2048) (hf : fr = nI i) (hi : i < s) (hp : ∃ p, p < e ∧ at_ i = nI p)
    (kk : ∀ σ' : ri_S, mo_W o (va_up A 9 (mo_dp (A 4) (A 6) (A 8) e (s - 1 - i) at_ i).1) I σ0 σ' → Q (some (.int (nI (mo_dp (A 4) (A 6) (A 8) e (s - 1 - i) at_ i).2))) σ') : ev_W (d + 1) mMo_deeper (0, [some (.ref o), some (.int rc), some (.int fr), none], []) σ Q := by
  subst hf
  refine ev_go 2 rfl ?_
  exact mo_deeper_loop hs hs2 hrc hu he he2 (s - 1 - i) i at_ σ (by omega) hp hW kk
/-- the leaf of a column among the first n -/
def mo_lf (G : Nat → Int32) (c : Int32) : Nat → Int32
  | 0 => -1
  | f + 1 => if 0 ≤ c ∧ (if G f = 0 then nI (mo_lv G f) else -1) = c then nI f else mo_lf G c f
theorem mo_lf_or (G : Nat → Int32) (c : Int32) : ∀ n, mo_lf G c n = -1 ∨ ∃ f, f < n ∧ mo_lf G c n = nI f ∧ G f = 0 ∧ c = nI (mo_lv G f)
  | 0 => Or.inl rfl
  | n + 1 => by
    unfold mo_lf
    by_cases h : 0 ≤ c ∧ (if G n = 0 then nI (mo_lv G n) else -1) = c
    · rw [if_pos h]
      by_cases g : G n = 0
      · rw [if_pos g] at h
        exact Or.inr ⟨n, Nat.lt_succ_self n, rfl, g, h.2.symm⟩
      · rw [if_neg g] at h
        rw [← h.2] at h
        exact absurd h.1 (by decide)
    · rw [if_neg h]
      rcases mo_lf_or G c n with q | ⟨f, q1, q2⟩
      · exact Or.inl q
      · exact Or.inr ⟨f, by omega, q2⟩
/-- the way to a leaf, filled from its end -/
def mo_wy (par : Nat → Int32) : Nat → Int32 → (Nat → Int32) → (Nat → Int32)
  | 0, _, w => w
  | t + 1, f, w => mo_wy par t (par f.toNatClampNeg) (upd w t f)
/-- depths: one more than the parent's, at most 16 -/
def mo_de (par dep : Nat → Int32) (n : Nat) : Prop := ∀ f, f < n → ∃ k, k < 16 ∧ dep f = nI (k + 1) ∧ (par f = -1 ∧ k = 0 ∨ ∃ p, p < f ∧ par f = nI p ∧ 0 < k ∧ dep p = nI k)
set_option maxRecDepth 100000 in
theorem mo_goesTo_way {c lf : Int32} {n : Nat} (hn : n ≤ 48) (hde : mo_de (A 0) (A 2) n) : ∀ (t : Nat) (f : Int32) (w : Nat → Int32) (σ : ri_S), (t = 0 ∨ ∃ q, q < n ∧ f = nI q ∧ A 2 q = nI t) → t ≤ 16 → mo_W o (va_up A 8 w) I σ0 σ →
    (∀ σ' : ri_S, mo_W o (va_up A 8 (mo_wy (A 0) t f w)) I σ0 σ' → Q (some (.int 1)) σ') → ev_W d mMo_goesTo (71, [some (.ref o), some (.int c), some (.int lf), some (.int f), some (.int (nI t - 1))], []) σ Q := by
  intro t
  induction t with
  | zero =>
    intro f w σ hf ht hW kk
    refine g_br rfl rfl rfl rfl rfl rfl (fun h1 => ?_) (fun h1 => absurd (by decide) h1)
    exact g_rt rfl rfl rfl (kk σ hW)
  | succ t ih =>
    intro f w σ hf ht hW kk
    obtain ⟨q, hq, e, eq⟩ : ∃ q, q < n ∧ f = nI q ∧ A 2 q = nI (t + 1) := by
      rcases hf with z | z
      · exact absurd z (Nat.succ_ne_zero t)
      · exact z
    subst e
    rw [nI_pred t]
    refine g_br rfl rfl rfl rfl rfl rfl (fun h1 => absurd h1 (nI_pos (by omega))) (fun h1 => ?_)
    refine g_get rfl rfl rfl hW.1.1 rfl ?_
    refine mo_ast hW 8 rfl rfl rfl rfl (show t < 17 by omega) (by decide) rfl (fun σ1 hW1 => ?_)
    rw [bx_uu] at hW1
    change mo_W o (va_up A 8 (upd w t (nI q))) I σ0 σ1 at hW1
    refine g_get rfl rfl rfl hW1.1.1 rfl ?_
    refine mo_ald hW1.1 0 rfl rfl rfl rfl (show q < 48 by omega) (by decide) rfl ?_
    refine ev_go 3 rfl ?_
    show ev_W d mMo_goesTo (71, [some (.ref o), some (.int c), some (.int lf), some (.int (A 0 q)), some (.int (nI t + -1))], []) σ1 Q
    rw [show nI t + -1 = nI t - 1 from (Int32.sub_eq_add_neg _ _).symm]
    refine ih (A 0 q) _ σ1 ?_ (by omega) hW1 (fun σ' h' => kk σ' ?_)
    · obtain ⟨k, k1, k2, k3⟩ := hde q hq
      have ek : k = t := by
        have := (nI_eq (by omega) (by omega)).mp (k2.symm.trans eq)
        omega
      subst ek
      rcases k3 with ⟨-, z⟩ | ⟨p, z1, z2, z3, z4⟩
      · exact Or.inl z
      · exact Or.inr ⟨p, by omega, z2, z4⟩
    · have ew : mo_wy (A 0) (t + 1) (nI q) w = mo_wy (A 0) t (A 0 q) (upd w t (nI q)) := by
        show mo_wy (A 0) t (A 0 (nI q).toNatClampNeg) _ = _
        rw [nI_clamp (by omega)]
      rw [ew]
      exact h'
set_option maxRecDepth 100000 in
theorem mo_goesTo_leaf {c : Int32} {n : Nat} (hP : mo_P o A I σ.1) (hI : I 4 = nI n) (hn : n ≤ 48) (hrd : ¬ I 5 = 0) (kk : ev_W (d + 1) mMo_goesTo (44, [some (.ref o), some (.int c), some (.int (mo_lf (A 3) c n)), some (.int (nI n)), none], []) σ Q) : ∀ (t i : Nat), i + t = n → ev_W (d + 1) mMo_goesTo (4, [some (.ref o), some (.int c), some (.int (mo_lf (A 3) c i)), some (.int (nI i)), none], []) σ Q := by
  intro t
  induction t with
  | zero =>
    intro i hi
    obtain rfl : i = n := by omega
    refine g_get rfl rfl rfl hP.1 rfl ?_
    refine g_br rfl rfl rfl rfl rfl rfl (fun h1 => ?_) (fun h1 => absurd (by rw [hI]; exact nI_le (Nat.le_refl _) (by omega)) h1)
    exact kk
  | succ t ih =>
    intro i hi
    refine g_get rfl rfl rfl hP.1 rfl ?_
    refine g_br rfl rfl rfl rfl rfl rfl (fun h1 => absurd h1 (by rw [hI]; exact nI_ge (by omega) (by omega))) (fun h1 => ?_)
    refine g_get rfl rfl rfl hP.1 rfl ?_
    refine g_br rfl rfl rfl rfl rfl rfl (fun h2 => absurd h2 hrd) (fun h2 => ?_)
    have on : ∀ y : Int32, y = mo_lf (A 3) c (i + 1) → ev_W (d + 1) mMo_goesTo (37, [some (.ref o), some (.int c), some (.int (mo_lf (A 3) c i)), some (.int (nI i)), none], [.int y]) σ Q := by
      intro y hy
      subst hy
      refine ev_go 3 rfl ?_
      show ev_W (d + 1) mMo_goesTo (4, [some (.ref o), some (.int c), some (.int (mo_lf (A 3) c (i + 1))), some (.int (nI i + 1)), none], []) σ Q
      rw [nI_1]
      exact ih (i + 1) (by omega)
    have ecase : mo_lf (A 3) c (i + 1) = if 0 ≤ c ∧ (if A 3 i = 0 then nI (mo_lv (A 3) i) else -1) = c then nI i else mo_lf (A 3) c i := rfl
    refine g_br rfl rfl rfl rfl rfl rfl (fun h3 => ?_) (fun h3 => ?_)
    · refine ev_go 1 rfl ?_
      exact on _ (by rw [ecase, if_neg (fun z => absurd h3 (Int32.not_lt.mpr z.1))])
    · refine g_clV rfl rfl rfl rfl hP.1 rfl rfl rfl ?_
      refine mo_columnOf hP rfl (show i < 48 by omega) ?_
      refine g_br rfl rfl rfl rfl rfl rfl (fun h4 => ?_) (fun h4 => ?_)
      · refine ev_go 2 rfl ?_
        exact on _ (by rw [ecase, if_pos ⟨Int32.not_lt.mp h3, h4⟩])
      · refine ev_go 1 rfl ?_
        exact on _ (by rw [ecase, if_neg (fun z => h4 z.2)])
set_option maxRecDepth 100000 in
/-- goesTo(column) -/
theorem mo_goesTo {c : Int32} {n : Nat} (hW : mo_W o A I σ0 σ) (hI : I 4 = nI n) (hn : n ≤ 48) (hde : mo_de (A 0) (A 2) n)
    (kno : (I 5 = 0 ∨ mo_lf (A 3) c n = -1) → Q (some (.int 0)) σ)
    (kyes : ∀ (σ' : ri_S) (f k : Nat), ¬ I 5 = 0 → f < n → mo_lf (A 3) c n = nI f → A 2 f = nI k → 0 < k → k ≤ 16 → mo_W o (va_up A 8 (mo_wy (A 0) k (nI f) (A 8))) (va_up I 16 (nI k)) σ0 σ' → Q (some (.int 1)) σ') :
    ev_W (d + 1) mMo_goesTo (0, [some (.ref o), some (.int c), none, none, none], []) σ Q := by
  have hP := hW.1
  by_cases hrd : I 5 = 0
  · refine g_get rfl rfl rfl hP.1 rfl ?_
    have out : ∀ x3 : Int32, ev_W (d + 1) mMo_goesTo (44, [some (.ref o), some (.int c), some (.int (-1)), some (.int x3), none], []) σ Q := by
      intro x3
      refine g_br rfl rfl rfl rfl rfl rfl (fun h1 => ?_) (fun h1 => absurd rfl h1)
      exact g_rt rfl rfl rfl (kno (Or.inl hrd))
    refine g_br rfl rfl rfl rfl rfl rfl (fun h1 => ?_) (fun h1 => ?_)
    · exact out 0
    · refine g_get rfl rfl rfl hP.1 rfl ?_
      refine g_br rfl rfl rfl rfl rfl rfl (fun h2 => ?_) (fun h2 => absurd hrd h2)
      exact out 0
  · refine ev_go 4 rfl ?_
    refine mo_goesTo_leaf hP hI hn hrd ?_ n 0 (by omega)
    refine g_br rfl rfl rfl rfl rfl rfl (fun h1 => ?_) (fun h1 => ?_)
    · exact g_rt rfl rfl rfl (kno (Or.inr h1))
    · obtain ⟨f, hf, ef, -⟩ : ∃ f, f < n ∧ mo_lf (A 3) c n = nI f ∧ True := by
        rcases mo_lf_or (A 3) c n with z | ⟨f, z1, z2, -⟩
        · exact absurd z h1
        · exact ⟨f, z1, z2, trivial⟩
      obtain ⟨k, k1, k2, -⟩ := hde f hf
      refine g_get rfl rfl rfl hP.1 rfl ?_
      refine mo_ald hP 2 rfl rfl rfl ef (show f < 48 by omega) (by decide) rfl ?_
      rw [k2]
      refine mo_set hW rfl rfl rfl rfl rfl rfl rfl (fun σ1 hW1 => ?_)
      refine g_get rfl rfl rfl hW1.1.1 rfl ?_
      refine ev_go 3 rfl ?_
      show ev_W (d + 1) mMo_goesTo (71, [some (.ref o), some (.int c), some (.int (mo_lf (A 3) c n)), some (.int (mo_lf (A 3) c n)), some (.int (nI (k + 1) - 1))], []) σ1 Q
      have hA : va_up A 8 (A 8) = A := by
        funext j
        unfold va_up
        by_cases z : j = 8
        · rw [if_pos z, z]
        · rw [if_neg z]
      refine mo_goesTo_way hn hde (k + 1) _ (A 8) σ1 (Or.inr ⟨f, hf, ef, k2⟩) (by omega) (by rw [hA]; exact hW1) (fun σ' h' => ?_)
      refine kyes σ' f (k + 1) hrd hf ef k2 (by omega) (by omega) ?_
      rw [ef] at h'
      exact h'
end MO9
end
section
/-! THE REFERENCE: finds. A record's entries of the way's leaf, as a list. -/
abbrev fi_E : Type := Int32 × Int32 × Int32
def fi_nx (ofs aro : Nat → Int32) (w ins : Int32) (e k : Nat) : Int32 := mo_nx ofs aro w ins (e - k) k
/-- an occurrence and its further ones -/
def fi_sib (nx : Nat → Int32) (en : Nat → Int32 → List fi_E) (R : Int32) : Nat → Nat → Int32 → List fi_E
  | 0, _, _ => []
  | u + 1, p, rep => en p rep ++ (if nx (p + 1) = -1 then [] else fi_sib nx en R u (nx (p + 1)).toNatClampNeg R)
/-- the entries that an occurrence p of the way's field j has, t steps above the leaf -/
def fi_ent (ofs aro val way D R : Nat → Int32) (e : Nat) : Nat → Nat → Nat → Int32 → List fi_E
  | 0, j, p, rep => [(rep, D j, val p)]
  | t + 1, j, p, rep => if fi_nx ofs aro (way (j + 1)) (nI p) e (p + 1) = -1 then [(rep, D j, 0)] else fi_sib (fi_nx ofs aro (way (j + 1)) (nI p) e) (fi_ent ofs aro val way D R e t (j + 1)) (R (j + 1)) e (fi_nx ofs aro (way (j + 1)) (nI p) e (p + 1)).toNatClampNeg rep
/-- a record's, b .. e - 1 -/
def fi_rec (ofs aro val way D R : Nat → Int32) (s b e : Nat) : List fi_E := if fi_nx ofs aro (way 0) (-1) e b = -1 then [(0, 0, 0)] else fi_sib (fi_nx ofs aro (way 0) (-1) e) (fi_ent ofs aro val way D R e (s - 1) 0) (R 0) e (fi_nx ofs aro (way 0) (-1) e b).toNatClampNeg 0
/-- of the field j of the way: how many are not required, are repeated -/
def fi_D (A : Nat → Nat → Int32) (n : Nat) (j : Nat) : Int32 := nI (mo_ct (A 0) (A 1) 1 n (A 8 j))
def fi_R (A : Nat → Nat → Int32) (n : Nat) (j : Nat) : Int32 := nI (mo_ct (A 0) (A 1) 2 n (A 8 j))
section FI
variable {d o : Nat} {A : Nat → Nat → Int32} {I : Nat → Int32} {σ0 : ri_S} {Q : Option Value → ri_S → Prop}
set_option maxRecDepth 100000 in
set_option maxHeartbeats 1000000 in
/-- at the loop's head with an entry at field j of the way -/
theorem fi_here {k rep : Int32} {rc : Int32} {n s j p cnt : Nat} {at_ : Nat → Int32} {σ : ri_S} {v : Int32} (hn : n ≤ 48) (hup : mo_up (A 0) n) (hs : I 16 = nI s) (hs2 : s ≤ 16) (hj : j < s) (hway : ∃ w, w < n ∧ A 8 j = nI w) (hp : at_ j = nI p) (hp2 : p < 2048) (hv : v = if j + 1 = s then A 5 p else 0)
    (hW : mo_W o (va_up A 9 at_) (va_up I 24 (nI cnt)) σ0 σ)
    (early : k = nI cnt → ∀ σ' : ri_S, mo_W o (va_up A 9 at_) (va_up (va_up (va_up (va_up I 24 (nI cnt)) 17 rep) 18 (fi_D A n j)) 19 v) σ0 σ' → Q (some (.int 1)) σ')
    (on : ¬ k = nI cnt → ∀ σ' : ri_S, mo_W o (va_up A 9 at_) (va_up I 24 (nI (cnt + 1))) σ0 σ' → ev_W (d + 2) mMo_finds (147, [some (.ref o), some (.int k), some (.int rc), some (.int (nI j)), some (.int rep), some (.int 1), some (.int (-1))], []) σ' Q) :
    ∀ x : Option Value, ev_W (d + 2) mMo_finds (60, [some (.ref o), some (.int k), some (.int rc), some (.int (nI j)), some (.int rep), some (.int 1), x], []) σ Q := by
  intro x
  obtain ⟨w, hw, ew⟩ := hway
  refine g_br rfl rfl rfl rfl rfl rfl (fun h1 => absurd h1 (by decide)) (fun h1 => ?_)
  refine g_get rfl rfl rfl hW.1.1 rfl ?_
  refine g_br rfl rfl rfl rfl rfl rfl (fun h2 => ?_) (fun h2 => ?_)
  · refine mo_set hW rfl rfl rfl rfl rfl rfl rfl (fun σ1 hW1 => ?_)
    refine g_br rfl rfl rfl rfl rfl rfl (fun h3 => absurd h3 (by intro z; have := nI_pos' (n := j) (by omega); rw [z] at this; exact absurd this (by decide))) (fun h3 => ?_)
    refine g_get rfl rfl rfl hW1.1.1 rfl ?_
    refine mo_ald hW1.1 8 rfl rfl rfl rfl (show j < 17 by omega) (by decide) rfl ?_
    refine g_clV rfl rfl rfl rfl hW1.1.1 rfl rfl rfl ?_
    refine mo_count hW1.1 ew hw hn hup ?_
    refine mo_set hW1 rfl rfl rfl rfl rfl rfl rfl (fun σ2 hW2 => ?_)
    refine g_get rfl rfl rfl hW2.1.1 rfl ?_
    have fin : ∀ y : Int32, y = v → ev_W (d + 2) mMo_finds (129, [some (.ref o), some (.int k), some (.int rc), some (.int (nI j)), some (.int rep), some (.int 1), x], [.int y, .ref o]) σ2 Q := by
      intro y hy
      subst hy
      refine mo_set hW2 rfl rfl rfl rfl rfl rfl rfl (fun σ3 hW3 => ?_)
      exact g_rt rfl rfl rfl (early h2.symm σ3 hW3)
    have es : I 16 - 1 = nI (s - 1) := by rw [hs, show s = (s - 1) + 1 by omega]; exact nI_pred (s - 1)
    refine g_br rfl rfl rfl rfl rfl rfl (fun h4 => ?_) (fun h4 => ?_)
    · have e1 : j + 1 = s := by
        have h5 : nI j = nI (s - 1) := by rw [← es]; exact h4
        have := (nI_eq (by omega) (by omega)).mp h5
        omega
      rw [if_pos e1] at hv
      refine g_get rfl rfl rfl hW2.1.1 rfl ?_
      refine g_get rfl rfl rfl hW2.1.1 rfl ?_
      refine mo_ald hW2.1 9 rfl rfl rfl rfl (show j < 17 by omega) (by decide) rfl ?_
      refine mo_ald hW2.1 5 rfl rfl rfl (i := p) hp hp2 (by decide) rfl ?_
      refine ev_go 1 rfl ?_
      exact fin _ hv.symm
    · have e1 : ¬ j + 1 = s := by
        intro z
        apply h4
        show nI j = I 16 - 1
        rw [es, show s - 1 = j by omega]
      rw [if_neg e1] at hv
      refine ev_go 1 rfl ?_
      exact fin _ hv.symm
  · refine g_get rfl rfl rfl hW.1.1 rfl ?_
    refine mo_set hW rfl rfl rfl rfl rfl rfl rfl (fun σ1 hW1 => ?_)
    refine ev_go 2 rfl ?_
    refine on (fun z => h2 z.symm) σ1 ?_
    have e1 : va_up (va_up I 24 (nI cnt)) 24 (va_up I 24 (nI cnt) 24 + 1) = va_up I 24 (nI (cnt + 1)) := by
      rw [bx_uu]
      show va_up I 24 (nI cnt + 1) = _
      rw [nI_1]
    rw [e1] at hW1
    exact hW1
set_option maxRecDepth 100000 in
set_option maxHeartbeats 1000000 in
/-- behind an entry, at field j of the way: its next occurrence, or back -/
theorem fi_up {k rep : Int32} {rc : Int32} {n s j p e u : Nat} {at_ : Nat → Int32} {σ : ri_S} {J : Nat → Int32} (hJ : J 16 = I 16) (hn : n ≤ 48) (hup : mo_up (A 0) n) (hs : I 16 = nI s) (hs2 : s ≤ 16) (hj : j < s) (hway : ∃ w, w < n ∧ A 8 j = nI w) (hp : at_ j = nI p) (hpe : p < e) (he2 : e ≤ 2048) (hrc : rc + 1 = nI u) (hu : u < 129) (he : A 7 u = nI e)
    (hW : mo_W o (va_up A 9 at_) J σ0 σ)
    (knone : fi_nx (A 4) (A 6) (A 8 j) (mo_ins at_ j) e (p + 1) = -1 → ev_W (d + 2) mMo_finds (147, [some (.ref o), some (.int k), some (.int rc), some (.int (nI j - 1)), some (.int rep), some (.int 1), some (.int (-1))], []) σ Q)
    (ksome : ∀ (p' : Nat) (σ' : ri_S), fi_nx (A 4) (A 6) (A 8 j) (mo_ins at_ j) e (p + 1) = nI p' → p < p' → p' < e → mo_W o (va_up A 9 (mo_dp (A 4) (A 6) (A 8) e (s - 1 - j) (upd at_ j (nI p')) j).1) J σ0 σ' → ev_W (d + 2) mMo_finds (60, [some (.ref o), some (.int k), some (.int rc), some (.int (nI (mo_dp (A 4) (A 6) (A 8) e (s - 1 - j) (upd at_ j (nI p')) j).2)), some (.int (fi_R A n j)), some (.int 1), some (.int (nI p'))], []) σ' Q) :
    ev_W (d + 2) mMo_finds (147, [some (.ref o), some (.int k), some (.int rc), some (.int (nI j)), some (.int rep), some (.int 1), some (.int (-1))], []) σ Q := by
  obtain ⟨w, hw, ew⟩ := hway
  refine g_br rfl rfl rfl rfl rfl rfl (fun h1 => absurd h1 (nI_pos (by omega))) (fun h1 => ?_)
  refine g_br rfl rfl rfl rfl rfl rfl (fun h2 => ?_) (fun h2 => absurd rfl h2)
  refine g_get rfl rfl rfl hW.1.1 rfl ?_
  refine mo_ald hW.1 9 rfl rfl rfl rfl (show j < 17 by omega) (by decide) rfl ?_
  refine g_clV rfl rfl rfl rfl hW.1.1 rfl rfl rfl ?_
  have ex : (va_up A 9 at_ 9 j) + 1 = nI (p + 1) := by show at_ j + 1 = _; rw [hp]; exact nI_1 p
  refine mo_next (e := e) hW.1 hrc hu he he2 rfl (show j < 17 by omega) ex (by omega) ?_
  have hor := mo_nx_or (A 4) (A 6) (A 8 j) (mo_ins at_ j) (e - (p + 1)) (p + 1)
  unfold fi_nx at knone ksome
  show ev_W (d + 2) mMo_finds (171, [some (.ref o), some (.int k), some (.int rc), some (.int (nI j)), some (.int rep), some (.int 1), some (.int (-1))], [.int (mo_nx (A 4) (A 6) (A 8 j) (mo_ins at_ j) (e - (p + 1)) (p + 1))]) σ Q
  generalize mo_nx (A 4) (A 6) (A 8 j) (mo_ins at_ j) (e - (p + 1)) (p + 1) = x at knone ksome hor ⊢
  refine g_br rfl rfl rfl rfl rfl rfl (fun h3 => ?_) (fun h3 => ?_)
  · subst h3
    refine ev_go 5 rfl ?_
    exact knone rfl
  · obtain ⟨p', q1, q2, q3, -⟩ : ∃ q, p + 1 ≤ q ∧ q < p + 1 + (e - (p + 1)) ∧ x = nI q ∧ A 4 q = A 8 j ∧ A 6 q = mo_ins at_ j := by
      rcases hor with z | z
      · exact absurd z h3
      · exact z
    subst q3
    refine ev_go 4 rfl ?_
    show ev_W (d + 2) mMo_finds (147, [some (.ref o), some (.int k), some (.int rc), some (.int (nI j - 0)), some (.int rep), some (.int 1), some (.int (nI p'))], []) σ Q
    rw [Int32.sub_zero]
    refine g_br rfl rfl rfl rfl rfl rfl (fun h4 => absurd h4 (nI_pos (by omega))) (fun h4 => ?_)
    refine g_br rfl rfl rfl rfl rfl rfl (fun h5 => absurd h5 h3) (fun h5 => ?_)
    refine g_br rfl rfl rfl rfl rfl rfl (fun h6 => absurd h6 h3) (fun h6 => ?_)
    refine g_br rfl rfl rfl rfl rfl rfl (fun h7 => absurd h7 (by decide)) (fun h7 => ?_)
    refine g_get rfl rfl rfl hW.1.1 rfl ?_
    refine mo_ast hW 9 rfl rfl rfl rfl (show j < 17 by omega) (by decide) rfl (fun σ1 hW1 => ?_)
    rw [bx_uu] at hW1
    change mo_W o (va_up A 9 (upd at_ j (nI p'))) J σ0 σ1 at hW1
    refine g_get rfl rfl rfl hW1.1.1 rfl ?_
    refine mo_ald hW1.1 8 rfl rfl rfl rfl (show j < 17 by omega) (by decide) rfl ?_
    refine g_clV rfl rfl rfl rfl hW1.1.1 rfl rfl rfl ?_
    refine mo_count hW1.1 ew hw hn hup ?_
    refine g_clV rfl rfl rfl rfl hW1.1.1 rfl rfl rfl ?_
    refine mo_deeper hW1 (by rw [hJ]; exact hs) hs2 hrc hu he he2 rfl hj ⟨p', by omega, pk_us⟩ (fun σ2 hW2 => ?_)
    refine ev_go 2 rfl ?_
    exact ksome p' σ2 rfl (by omega) (by omega) hW2
end FI
end
section
/-! THE REFERENCE: finds, the walk over a record. -/
theorem mo_ins_eq {a b : Nat → Int32} {j : Nat} (h : ∀ l, l < j → a l = b l) : mo_ins a j = mo_ins b j := by
  cases j with
  | zero => rfl
  | succ j => exact h j (Nat.lt_succ_self j)
theorem nI_nm1 {p : Nat} (h : p < 2 ^ 31) : ¬ nI p = -1 := by
  intro q
  have := nI_pos' h
  rw [q] at this
  exact absurd this (by decide)
/-- finds comes on entry κ of L, cnt entries ahead of it -/
def fi_early (o : Nat) (A : Nat → Nat → Int32) (I : Nat → Int32) (σ0 : ri_S) (Q : Option Value → ri_S → Prop) (k : Int32) (cnt : Nat) (L : List fi_E) : Prop := ∀ (κ : Nat) (en : fi_E), L[κ]? = some en → k = nI (cnt + κ) → ∀ (at' : Nat → Int32) (σ' : ri_S), mo_W o (va_up A 9 at') (va_up (va_up (va_up (va_up I 24 (nI (cnt + κ))) 17 en.1) 18 en.2.1) 19 en.2.2) σ0 σ' → Q (some (.int 1)) σ'
/-- finds has passed all of L, and stands at i with nothing further -/
def fi_past (d o : Nat) (A : Nat → Nat → Int32) (I : Nat → Int32) (σ0 : ri_S) (Q : Option Value → ri_S → Prop) (k rc i : Int32) (cnt : Nat) (L : List fi_E) (ag : (Nat → Int32) → Prop) : Prop := (∀ κ, κ < L.length → ¬ k = nI (cnt + κ)) → ∀ (at' : Nat → Int32) (rep' : Int32) (σ' : ri_S), ag at' → mo_W o (va_up A 9 at') (va_up I 24 (nI (cnt + L.length))) σ0 σ' → ev_W (d + 2) mMo_finds (147, [some (.ref o), some (.int k), some (.int rc), some (.int i), some (.int rep'), some (.int 1), some (.int (-1))], []) σ' Q
section FI2
variable {d o : Nat} {A : Nat → Nat → Int32} {I : Nat → Int32} {σ0 : ri_S} {Q : Option Value → ri_S → Prop}
theorem fi_early.left {k : Int32} {cnt : Nat} {L R : List fi_E} (h : fi_early o A I σ0 Q k cnt (L ++ R)) : fi_early o A I σ0 Q k cnt L := by
  intro κ en hκ
  exact h κ en (by rw [List.getElem?_append_left (List.getElem?_eq_some_iff.mp hκ).1]; exact hκ)
theorem fi_early.right {k : Int32} {cnt : Nat} {L R : List fi_E} (h : fi_early o A I σ0 Q k cnt (L ++ R)) : fi_early o A I σ0 Q k (cnt + L.length) R := by
  intro κ en hκ hk at' σ' hW
  refine h (L.length + κ) en (by rw [List.getElem?_append_right (by omega), show L.length + κ - L.length = κ by omega]; exact hκ) (by rw [hk, Nat.add_assoc]) at' σ' (by rw [← Nat.add_assoc]; exact hW)
theorem fi_past.right {k rc i : Int32} {cnt : Nat} {L R : List fi_E} {ag ag' : (Nat → Int32) → Prop} (h : fi_past d o A I σ0 Q k rc i cnt (L ++ R) ag) (hL : ∀ κ, κ < L.length → ¬ k = nI (cnt + κ)) (hag : ∀ a, ag' a → ag a) : fi_past d o A I σ0 Q k rc i (cnt + L.length) R ag' := by
  intro hall at' rep' σ' ha hW
  refine h (fun κ hκ => ?_) at' rep' σ' (hag _ ha) (by rw [List.length_append, ← Nat.add_assoc]; exact hW)
  rw [List.length_append] at hκ
  rcases Nat.lt_or_ge κ L.length with z | z
  · exact hL κ z
  · have := hall (κ - L.length) (by omega)
    rw [show cnt + L.length + (κ - L.length) = cnt + κ by omega] at this
    exact this
/-- an occurrence p of the way's field j is passed, or comes on its entry -/
def fi_EK (d o : Nat) (A : Nat → Nat → Int32) (I : Nat → Int32) (σ0 : ri_S) (Q : Option Value → ri_S → Prop) (k rc : Int32) (n e t j : Nat) : Prop := ∀ (p : Nat) (at0 : Nat → Int32) (rep : Int32) (cnt : Nat) (σ : ri_S) (x : Option Value), p < e → at0 j = nI p → mo_W o (va_up A 9 (mo_dp (A 4) (A 6) (A 8) e t at0 j).1) (va_up I 24 (nI cnt)) σ0 σ →
  fi_early o A I σ0 Q k cnt (fi_ent (A 4) (A 6) (A 5) (A 8) (fi_D A n) (fi_R A n) e t j p rep) → fi_past d o A I σ0 Q k rc (nI j) cnt (fi_ent (A 4) (A 6) (A 5) (A 8) (fi_D A n) (fi_R A n) e t j p rep) (fun at' => ∀ l, l ≤ j → at' l = at0 l) →
  ev_W (d + 2) mMo_finds (60, [some (.ref o), some (.int k), some (.int rc), some (.int (nI (mo_dp (A 4) (A 6) (A 8) e t at0 j).2)), some (.int rep), some (.int 1), x], []) σ Q
/-- an occurrence and its further ones -/
def fi_SK (d o : Nat) (A : Nat → Nat → Int32) (I : Nat → Int32) (σ0 : ri_S) (Q : Option Value → ri_S → Prop) (k rc : Int32) (n e t j : Nat) : Prop := ∀ (u p : Nat) (at0 : Nat → Int32) (rep : Int32) (cnt : Nat) (σ : ri_S) (x : Option Value), e ≤ p + u → p < e → at0 j = nI p → mo_W o (va_up A 9 (mo_dp (A 4) (A 6) (A 8) e t at0 j).1) (va_up I 24 (nI cnt)) σ0 σ →
  fi_early o A I σ0 Q k cnt (fi_sib (fi_nx (A 4) (A 6) (A 8 j) (mo_ins at0 j) e) (fi_ent (A 4) (A 6) (A 5) (A 8) (fi_D A n) (fi_R A n) e t j) (fi_R A n j) u p rep) → fi_past d o A I σ0 Q k rc (nI j - 1) cnt (fi_sib (fi_nx (A 4) (A 6) (A 8 j) (mo_ins at0 j) e) (fi_ent (A 4) (A 6) (A 5) (A 8) (fi_D A n) (fi_R A n) e t j) (fi_R A n j) u p rep) (fun at' => ∀ l, l < j → at' l = at0 l) →
  ev_W (d + 2) mMo_finds (60, [some (.ref o), some (.int k), some (.int rc), some (.int (nI (mo_dp (A 4) (A 6) (A 8) e t at0 j).2)), some (.int rep), some (.int 1), x], []) σ Q
set_option maxRecDepth 100000 in
set_option maxHeartbeats 2000000 in
theorem fi_sk_of {k rc : Int32} {n s e u0 t j : Nat} (hn : n ≤ 48) (hup : mo_up (A 0) n) (hs : I 16 = nI s) (hs2 : s ≤ 16) (hway : ∀ j, j < s → ∃ w, w < n ∧ A 8 j = nI w) (he2 : e ≤ 2048) (hrc : rc + 1 = nI u0) (hu0 : u0 < 129) (he : A 7 u0 = nI e) (hj : j + 1 + t = s) (hE : fi_EK d o A I σ0 Q k rc n e t j) : fi_SK d o A I σ0 Q k rc n e t j := by
  intro u
  have hj2 : j < s := by omega
  induction u with
  | zero => intro p at0 rep cnt σ x h1 h2; omega
  | succ u ihu =>
    intro p at0 rep cnt σ x hu hpe hp hW early done
    generalize hnx : fi_nx (A 4) (A 6) (A 8 j) (mo_ins at0 j) e = NX at early done
    have eL : fi_sib NX (fi_ent (A 4) (A 6) (A 5) (A 8) (fi_D A n) (fi_R A n) e t j) (fi_R A n j) (u + 1) p rep = fi_ent (A 4) (A 6) (A 5) (A 8) (fi_D A n) (fi_R A n) e t j p rep ++ (if NX (p + 1) = -1 then [] else fi_sib NX (fi_ent (A 4) (A 6) (A 5) (A 8) (fi_D A n) (fi_R A n) e t j) (fi_R A n j) u (NX (p + 1)).toNatClampNeg (fi_R A n j)) := rfl
    rw [eL] at early done
    generalize hEn : fi_ent (A 4) (A 6) (A 5) (A 8) (fi_D A n) (fi_R A n) e t j p rep = EN at early done
    refine hE p at0 rep cnt σ x hpe hp hW (by rw [hEn]; exact early.left) ?_
    rw [hEn]
    intro hall at' rep' σ' hat hW'
    have ein : mo_ins at' j = mo_ins at0 j := mo_ins_eq (fun l hl => hat l (by omega))
    refine fi_up (I := I) (J := va_up I 24 (nI (cnt + EN.length))) rfl hn hup hs hs2 hj2 (hway j hj2) ((hat j (Nat.le_refl _)).trans hp) hpe he2 hrc hu0 he hW' (fun z => ?_) (fun p' σ2 z z1 z2 hW2 => ?_)
    · rw [ein, hnx] at z
      rw [if_pos z, List.append_nil] at done
      exact done hall at' rep' σ' (fun l hl => hat l (by omega)) hW'
    · rw [ein, hnx] at z
      have ein2 : mo_ins (upd at' j (nI p')) j = mo_ins at0 j := mo_ins_eq (fun l hl => (pk_un (by omega)).trans (hat l (by omega)))
      rw [if_neg (by rw [z]; exact nI_nm1 (by omega)), z, nI_clamp (by omega)] at early done
      rw [show s - 1 - j = t by omega] at hW2 ⊢
      refine ihu p' (upd at' j (nI p')) (fi_R A n j) (cnt + EN.length) σ2 _ (by omega) z2 pk_us hW2 ?_ ?_
      · rw [ein2, hnx]
        exact early.right
      · rw [ein2, hnx]
        exact done.right hall (fun a ha l hl => (ha l hl).trans ((pk_un (by omega)).trans (hat l (by omega))))
set_option maxRecDepth 100000 in
set_option maxHeartbeats 2000000 in
theorem fi_ek_0 {k rc : Int32} {n s e j : Nat} (hn : n ≤ 48) (hup : mo_up (A 0) n) (hs : I 16 = nI s) (hs2 : s ≤ 16) (hway : ∀ j, j < s → ∃ w, w < n ∧ A 8 j = nI w) (he2 : e ≤ 2048) (hj : j + 1 = s) : fi_EK d o A I σ0 Q k rc n e 0 j := by
  intro p at0 rep cnt σ x hpe hp hW early past
  refine fi_here (at_ := at0) (p := p) (v := A 5 p) hn hup hs hs2 (by omega) (hway j (by omega)) hp (by omega) (by rw [if_pos hj]) hW (fun q σ' h' => early 0 (rep, fi_D A n j, A 5 p) rfl q at0 σ' h') (fun q σ' h' => past (fun κ hκ => ?_) at0 rep σ' (fun _ _ => rfl) h') x
  have : κ = 0 := by
    have h9 : κ < 1 := hκ
    omega
  rw [this]; exact q
set_option maxRecDepth 100000 in
set_option maxHeartbeats 2000000 in
theorem fi_ek_s {k rc : Int32} {n s e t j : Nat} (hn : n ≤ 48) (hup : mo_up (A 0) n) (hs : I 16 = nI s) (hs2 : s ≤ 16) (hway : ∀ j, j < s → ∃ w, w < n ∧ A 8 j = nI w) (he2 : e ≤ 2048) (hj : j + 1 + (t + 1) = s) (hS : fi_SK d o A I σ0 Q k rc n e t (j + 1)) : fi_EK d o A I σ0 Q k rc n e (t + 1) j := by
  intro p at0 rep cnt σ x hpe hp hW early past
  have hp31 : p < 2 ^ 31 := by omega
  have eD : mo_dp (A 4) (A 6) (A 8) e (t + 1) at0 j = if fi_nx (A 4) (A 6) (A 8 (j + 1)) (nI p) e (p + 1) = -1 then (upd at0 (j + 1) (-1), j) else mo_dp (A 4) (A 6) (A 8) e t (upd at0 (j + 1) (fi_nx (A 4) (A 6) (A 8 (j + 1)) (nI p) e (p + 1))) (j + 1) := by
    show (if mo_nx _ _ _ _ _ _ = -1 then _ else _) = _
    rw [hp, nI_clamp hp31]
    rfl
  have eE : fi_ent (A 4) (A 6) (A 5) (A 8) (fi_D A n) (fi_R A n) e (t + 1) j p rep = if fi_nx (A 4) (A 6) (A 8 (j + 1)) (nI p) e (p + 1) = -1 then [(rep, fi_D A n j, 0)] else fi_sib (fi_nx (A 4) (A 6) (A 8 (j + 1)) (nI p) e) (fi_ent (A 4) (A 6) (A 5) (A 8) (fi_D A n) (fi_R A n) e t (j + 1)) (fi_R A n (j + 1)) e (fi_nx (A 4) (A 6) (A 8 (j + 1)) (nI p) e (p + 1)).toNatClampNeg rep := rfl
  rw [eE] at early past
  rw [eD] at hW ⊢
  have hor := mo_nx_or (A 4) (A 6) (A 8 (j + 1)) (nI p) (e - (p + 1)) (p + 1)
  change fi_nx (A 4) (A 6) (A 8 (j + 1)) (nI p) e (p + 1) = -1 ∨ ∃ q, p + 1 ≤ q ∧ q < p + 1 + (e - (p + 1)) ∧ fi_nx (A 4) (A 6) (A 8 (j + 1)) (nI p) e (p + 1) = nI q ∧ A 4 q = A 8 (j + 1) ∧ A 6 q = nI p at hor
  by_cases hx : fi_nx (A 4) (A 6) (A 8 (j + 1)) (nI p) e (p + 1) = -1
  · rw [if_pos hx] at early past hW ⊢
    refine fi_here (at_ := upd at0 (j + 1) (-1)) (p := p) (v := 0) hn hup hs hs2 (by omega) (hway j (by omega)) ((pk_un (by omega)).trans hp) (by omega) (by rw [if_neg (by omega)]) hW (fun q σ' h' => early 0 (rep, fi_D A n j, 0) rfl q _ σ' h') (fun q σ' h' => past (fun κ hκ => ?_) _ rep σ' (fun l hl => pk_un (by omega)) h') x
    have : κ = 0 := by
      have h9 : κ < 1 := hκ
      omega
    rw [this]; exact q
  · rw [if_neg hx] at early past hW ⊢
    obtain ⟨c, c1, c2, c3, -⟩ := hor.resolve_left hx
    rw [c3] at hW ⊢
    rw [c3, nI_clamp (by omega)] at early past
    have ein : mo_ins (upd at0 (j + 1) (nI c)) (j + 1) = nI p := (pk_un (by omega)).trans hp
    refine hS e c (upd at0 (j + 1) (nI c)) rep cnt σ x (by omega) (by omega) pk_us hW ?_ ?_
    · rw [ein]; exact early
    · rw [ein]
      intro hall at' rep' σ' hat hW'
      rw [nI_pred j]
      exact past hall at' rep' σ' (fun l hl => (hat l (by omega)).trans (pk_un (by omega))) hW'
end FI2
end
section
/-! THE REFERENCE: finds, entries, entry. -/
/-- the entries of m records from r on; record r is B r .. B (r + 1) - 1 -/
def fi_from (A : Nat → Nat → Int32) (n s : Nat) (B : Nat → Nat) : Nat → Nat → List fi_E
  | 0, _ => []
  | m + 1, r => fi_rec (A 4) (A 6) (A 5) (A 8) (fi_D A n) (fi_R A n) s (B r) (B (r + 1)) ++ fi_from A n s B m (r + 1)
section FI3
variable {d o : Nat} {A : Nat → Nat → Int32} {I : Nat → Int32} {σ0 : ri_S} {Q : Option Value → ri_S → Prop}
theorem fi_all {k rc : Int32} {n s e u0 : Nat} (hn : n ≤ 48) (hup : mo_up (A 0) n) (hs : I 16 = nI s) (hs2 : s ≤ 16) (hway : ∀ j, j < s → ∃ w, w < n ∧ A 8 j = nI w) (he2 : e ≤ 2048) (hrc : rc + 1 = nI u0) (hu0 : u0 < 129) (he : A 7 u0 = nI e) : ∀ (t j : Nat), j + 1 + t = s → fi_SK d o A I σ0 Q k rc n e t j := by
  intro t
  induction t with
  | zero => intro j hj; exact fi_sk_of hn hup hs hs2 hway he2 hrc hu0 he hj (fi_ek_0 hn hup hs hs2 hway he2 hj)
  | succ t ih => intro j hj; exact fi_sk_of hn hup hs hs2 hway he2 hrc hu0 he hj (fi_ek_s hn hup hs hs2 hway he2 hj (ih (j + 1) (by omega)))
set_option maxRecDepth 100000 in
set_option maxHeartbeats 2000000 in
theorem fi_loop {k : Int32} {n s N : Nat} {B : Nat → Nat} (hn : n ≤ 48) (hup : mo_up (A 0) n) (hs : I 16 = nI s) (hs0 : 0 < s) (hs2 : s ≤ 16) (hway : ∀ j, j < s → ∃ w, w < n ∧ A 8 j = nI w) (hN : I 11 = nI N) (hN2 : N ≤ 128) (hB : ∀ r, r ≤ N → A 7 r = nI (B r) ∧ B r ≤ 2048) :
    ∀ (m r cnt : Nat) (at0 : Nat → Int32) (σ : ri_S) (x3 x4 x5 x6 : Option Value), r + m = N → mo_W o (va_up A 9 at0) (va_up I 24 (nI cnt)) σ0 σ →
      fi_early o A I σ0 Q k cnt (fi_from A n s B m r) →
      ((∀ κ, κ < (fi_from A n s B m r).length → ¬ k = nI (cnt + κ)) → ∀ (at' : Nat → Int32) (σ' : ri_S), mo_W o (va_up A 9 at') (va_up I 24 (nI (cnt + (fi_from A n s B m r).length))) σ0 σ' → Q (some (.int 0)) σ') →
      ev_W (d + 2) mMo_finds (7, [some (.ref o), some (.int k), some (.int (nI r)), x3, x4, x5, x6], []) σ Q := by
  intro m
  induction m with
  | zero =>
    intro r cnt at0 σ x3 x4 x5 x6 hr hW early done
    obtain rfl : r = N := by omega
    refine g_get rfl rfl rfl hW.1.1 rfl ?_
    refine g_br rfl rfl rfl rfl rfl rfl (fun h1 => ?_) (fun h1 => absurd (by show I 11 ≤ _; rw [hN]; exact nI_le (Nat.le_refl _) (by omega)) h1)
    exact g_rt rfl rfl rfl (done (fun κ hκ => absurd hκ (Nat.not_lt_zero _)) at0 σ hW)
  | succ m ih =>
    intro r cnt at0 σ x3 x4 x5 x6 hr hW early done
    obtain ⟨hb1, hb2⟩ := hB r (by omega)
    obtain ⟨he1, he2⟩ := hB (r + 1) (by omega)
    have eL : fi_from A n s B (m + 1) r = fi_rec (A 4) (A 6) (A 5) (A 8) (fi_D A n) (fi_R A n) s (B r) (B (r + 1)) ++ fi_from A n s B m (r + 1) := rfl
    rw [eL] at early done
    generalize hRec : fi_rec (A 4) (A 6) (A 5) (A 8) (fi_D A n) (fi_R A n) s (B r) (B (r + 1)) = REC at early done
    -- behind the record
    have nxt : (∀ κ, κ < REC.length → ¬ k = nI (cnt + κ)) → ∀ (at' : Nat → Int32) (σ' : ri_S) (y3 y4 y6 : Int32), mo_W o (va_up A 9 at') (va_up I 24 (nI (cnt + REC.length))) σ0 σ' → ev_W (d + 2) mMo_finds (60, [some (.ref o), some (.int k), some (.int (nI r)), some (.int y3), some (.int y4), some (.int 0), some (.int y6)], []) σ' Q := by
      intro hall at' σ' y3 y4 y6 hW'
      refine g_br rfl rfl rfl rfl rfl rfl (fun h1 => ?_) (fun h1 => absurd rfl h1)
      refine ev_go 2 rfl ?_
      show ev_W (d + 2) mMo_finds (7, [some (.ref o), some (.int k), some (.int (nI r + 1)), some (.int y3), some (.int y4), some (.int 0), some (.int y6)], []) σ' Q
      rw [nI_1]
      refine ih (r + 1) (cnt + REC.length) at' σ' _ _ _ _ (by omega) hW' early.right (fun hall2 at2 σ2 hW2 => ?_)
      refine done (fun κ hκ => ?_) at2 σ2 (by rw [List.length_append, ← Nat.add_assoc]; exact hW2)
      rw [List.length_append] at hκ
      rcases Nat.lt_or_ge κ REC.length with z | z
      · exact hall κ z
      · have := hall2 (κ - REC.length) (by omega)
        rw [show cnt + REC.length + (κ - REC.length) = cnt + κ by omega] at this
        exact this
    have out : (∀ κ, κ < REC.length → ¬ k = nI (cnt + κ)) → ∀ (at' : Nat → Int32) (σ' : ri_S) (y4 : Int32), mo_W o (va_up A 9 at') (va_up I 24 (nI (cnt + REC.length))) σ0 σ' → ev_W (d + 2) mMo_finds (147, [some (.ref o), some (.int k), some (.int (nI r)), some (.int (-1)), some (.int y4), some (.int 1), some (.int (-1))], []) σ' Q := by
      intro hall at' σ' y4 hW'
      refine g_br rfl rfl rfl rfl rfl rfl (fun h1 => ?_) (fun h1 => absurd (by decide) h1)
      refine g_br rfl rfl rfl rfl rfl rfl (fun h1 => ?_) (fun h1 => absurd rfl h1)
      refine g_br rfl rfl rfl rfl rfl rfl (fun h1 => ?_) (fun h1 => absurd rfl h1)
      refine ev_go 1 rfl ?_
      exact nxt hall at' σ' (-1) y4 (-1) hW'
    refine g_get rfl rfl rfl hW.1.1 rfl ?_
    refine g_br rfl rfl rfl rfl rfl rfl (fun h1 => absurd h1 (by show ¬ I 11 ≤ _; rw [hN]; exact nI_ge (by omega) (by omega))) (fun h1 => ?_)
    refine g_get rfl rfl rfl hW.1.1 rfl ?_
    refine g_get rfl rfl rfl hW.1.1 rfl ?_
    refine mo_ald hW.1 7 rfl rfl rfl rfl (show r < 129 by omega) (by decide) rfl ?_
    refine g_clV rfl rfl rfl rfl hW.1.1 rfl rfl rfl ?_
    refine mo_next (e := B (r + 1)) (q := 0) (k := B r) hW.1 (nI_1 r) (show r + 1 < 129 by omega) he1 he2 rfl (by decide) hb1 hb2 ?_
    have hor := mo_nx_or (A 4) (A 6) (A 8 0) (-1) (B (r + 1) - B r) (B r)
    have eR : REC = if mo_nx (A 4) (A 6) (A 8 0) (-1) (B (r + 1) - B r) (B r) = -1 then [(0, 0, 0)] else fi_sib (fi_nx (A 4) (A 6) (A 8 0) (-1) (B (r + 1))) (fi_ent (A 4) (A 6) (A 5) (A 8) (fi_D A n) (fi_R A n) (B (r + 1)) (s - 1) 0) (fi_R A n 0) (B (r + 1)) (mo_nx (A 4) (A 6) (A 8 0) (-1) (B (r + 1) - B r) (B r)).toNatClampNeg 0 := hRec.symm
    show ev_W (d + 2) mMo_finds (32, [some (.ref o), some (.int k), some (.int (nI r)), x3, x4, x5, x6], [.int (mo_nx (A 4) (A 6) (A 8 0) (-1) (B (r + 1) - B r) (B r)), .int (nI 0), .ref (o + 10)]) σ Q
    generalize mo_nx (A 4) (A 6) (A 8 0) (-1) (B (r + 1) - B r) (B r) = c0 at hor eR ⊢
    refine mo_ast hW 9 (i := 0) rfl rfl rfl rfl (by decide) (by decide) rfl (fun σ1 hW1 => ?_)
    rw [bx_uu] at hW1
    change mo_W o (va_up A 9 (upd at0 0 c0)) (va_up I 24 (nI cnt)) σ0 σ1 at hW1
    refine g_get rfl rfl rfl hW1.1.1 rfl ?_
    refine mo_ald hW1.1 9 (i := 0) rfl rfl rfl rfl (by decide) (by decide) rfl ?_
    have e0 : va_up A 9 (upd at0 0 c0) 9 0 = c0 := rfl
    rw [e0]
    refine g_br rfl rfl rfl rfl rfl rfl (fun h2 => ?_) (fun h2 => ?_)
    · rw [if_pos h2] at eR
      subst eR
      refine ev_go 7 rfl ?_
      show ev_W (d + 2) mMo_finds (60, [some (.ref o), some (.int k), some (.int (nI r)), some (.int (-1)), some (.int 0), some (.int 1), x6], []) σ1 Q
      refine g_br rfl rfl rfl rfl rfl rfl (fun h3 => absurd h3 (by decide)) (fun h3 => ?_)
      refine g_get rfl rfl rfl hW1.1.1 rfl ?_
      refine g_br rfl rfl rfl rfl rfl rfl (fun h4 => ?_) (fun h4 => ?_)
      · refine mo_set hW1 rfl rfl rfl rfl rfl rfl rfl (fun σ2 hW2 => ?_)
        refine g_br rfl rfl rfl rfl rfl rfl (fun h5 => ?_) (fun h5 => absurd rfl h5)
        refine mo_set hW2 rfl rfl rfl rfl rfl rfl rfl (fun σ3 hW3 => ?_)
        refine g_get rfl rfl rfl hW3.1.1 rfl ?_
        have es : I 16 - 1 = nI (s - 1) := by rw [hs, show s = (s - 1) + 1 by omega]; exact nI_pred (s - 1)
        refine g_br rfl rfl rfl rfl rfl rfl (fun h6 => absurd (show (-1 : Int32) = I 16 - 1 from h6) (by rw [es]; exact fun z => nI_nm1 (by omega) z.symm)) (fun h6 => ?_)
        refine mo_set hW3 rfl rfl rfl rfl rfl rfl rfl (fun σ4 hW4 => ?_)
        exact g_rt rfl rfl rfl (early 0 (0, 0, 0) rfl h4.symm _ σ4 hW4)
      · refine g_get rfl rfl rfl hW1.1.1 rfl ?_
        refine mo_set hW1 rfl rfl rfl rfl rfl rfl rfl (fun σ2 hW2 => ?_)
        refine ev_go 2 rfl ?_
        refine out (fun κ hκ => ?_) (upd at0 0 c0) σ2 0 ?_
        · have h9 : κ < 1 := hκ
          rw [show κ = 0 by omega]
          exact fun z => h4 z.symm
        · have e1 : va_up (va_up I 24 (nI cnt)) 24 (va_up I 24 (nI cnt) 24 + 1) = va_up I 24 (nI (cnt + 1)) := by
            rw [bx_uu]
            show va_up I 24 (nI cnt + 1) = _
            rw [nI_1]
          rw [e1] at hW2
          exact hW2
    · rw [if_neg h2] at eR
      obtain ⟨p0, q1, q2, q3, -⟩ := hor.resolve_left h2
      subst q3
      rw [nI_clamp (by omega)] at eR
      subst eR
      refine g_clV rfl rfl rfl rfl hW1.1.1 rfl rfl rfl ?_
      refine mo_deeper (e := B (r + 1)) (i := 0) hW1 hs hs2 (nI_1 r) (show r + 1 < 129 by omega) he1 he2 rfl hs0 ⟨p0, by omega, rfl⟩ (fun σ2 hW2 => ?_)
      refine ev_go 5 rfl ?_
      rw [show s - 1 - 0 = s - 1 by omega] at hW2
      show ev_W (d + 2) mMo_finds (60, [some (.ref o), some (.int k), some (.int (nI r)), some (.int (nI (mo_dp (A 4) (A 6) (A 8) (B (r + 1)) (s - 1) (upd at0 0 (nI p0)) 0).2)), some (.int 0), some (.int 1), x6], []) σ2 Q
      refine fi_all hn hup hs hs2 hway he2 (nI_1 r) (show r + 1 < 129 by omega) he1 (s - 1) 0 (by omega) (B (r + 1)) p0 (upd at0 0 (nI p0)) 0 cnt σ2 x6 (by omega) (by omega) rfl hW2 early.left ?_
      intro hall at' rep' σ' _ hW'
      exact out hall at' σ' rep' hW'
set_option maxRecDepth 100000 in
/-- finds(k) -/
theorem mo_finds {k : Int32} {n s N : Nat} {B : Nat → Nat} {σ : ri_S} (hW : mo_W o A I σ0 σ) (hn : n ≤ 48) (hup : mo_up (A 0) n) (hs : I 16 = nI s) (hs0 : 0 < s) (hs2 : s ≤ 16) (hway : ∀ j, j < s → ∃ w, w < n ∧ A 8 j = nI w) (hN : I 11 = nI N) (hN2 : N ≤ 128) (hB : ∀ r, r ≤ N → A 7 r = nI (B r) ∧ B r ≤ 2048)
    (early : ∀ (κ : Nat) (en : fi_E), (fi_from A n s B N 0)[κ]? = some en → k = nI κ → ∀ (at' : Nat → Int32) (σ' : ri_S), mo_W o (va_up A 9 at') (va_up (va_up (va_up (va_up I 24 (nI κ)) 17 en.1) 18 en.2.1) 19 en.2.2) σ0 σ' → Q (some (.int 1)) σ')
    (done : (∀ κ, κ < (fi_from A n s B N 0).length → ¬ k = nI κ) → ∀ (at' : Nat → Int32) (σ' : ri_S), mo_W o (va_up A 9 at') (va_up I 24 (nI (fi_from A n s B N 0).length)) σ0 σ' → Q (some (.int 0)) σ') :
    ev_W (d + 2) mMo_finds (0, [some (.ref o), some (.int k), none, none, none, none, none], []) σ Q := by
  refine mo_set hW rfl rfl rfl rfl rfl rfl rfl (fun σ1 hW1 => ?_)
  refine ev_go 2 rfl ?_
  have hA : va_up A 9 (A 9) = A := by
    funext j
    unfold va_up
    by_cases z : j = 9
    · rw [if_pos z, z]
    · rw [if_neg z]
  refine fi_loop hn hup hs hs0 hs2 hway hN hN2 hB N 0 0 (A 9) σ1 none none none none (by omega) (by rw [hA]; exact hW1) ?_ ?_
  · intro κ en h1 h2 at' σ' h3
    rw [Nat.zero_add] at h2 h3
    exact early κ en h1 h2 at' σ' h3
  · intro hall at' σ' h3
    rw [Nat.zero_add] at h3
    exact done (fun κ hκ => by have := hall κ hκ; rw [Nat.zero_add] at this; exact this) at' σ' h3
end FI3
end
section
/-! THE REFERENCE: entries, entry. -/
theorem mo_wy_in {par dep : Nat → Int32} {n : Nat} (hde : mo_de par dep n) : ∀ (t : Nat) (f : Int32) (w : Nat → Int32), t ≤ 16 → (t = 0 ∨ ∃ q, q < n ∧ f = nI q ∧ dep q = nI t) → n ≤ 48 → (∀ j, t ≤ j → mo_wy par t f w j = w j) ∧ ∀ j, j < t → ∃ q, q < n ∧ mo_wy par t f w j = nI q := by
  intro t
  induction t with
  | zero => intro f w _ _ _; exact ⟨fun _ _ => rfl, fun j hj => absurd hj (Nat.not_lt_zero _)⟩
  | succ t ih =>
    intro f w ht hf hn
    obtain ⟨q, hq, rfl, eq⟩ := hf.resolve_left (Nat.succ_ne_zero t)
    have ew : mo_wy par (t + 1) (nI q) w = mo_wy par t (par q) (upd w t (nI q)) := by
      show mo_wy par t (par (nI q).toNatClampNeg) _ = _
      rw [nI_clamp (by omega)]
    rw [ew]
    have hnext : t = 0 ∨ ∃ p, p < n ∧ par q = nI p ∧ dep p = nI t := by
      obtain ⟨k, k1, k2, k3⟩ := hde q hq
      have ek : k = t := by
        have := (nI_eq (by omega) (by omega)).mp (k2.symm.trans eq)
        omega
      subst ek
      rcases k3 with ⟨-, z⟩ | ⟨p, z1, z2, z3, z4⟩
      · exact Or.inl z
      · exact Or.inr ⟨p, by omega, z2, z4⟩
    obtain ⟨h1, h2⟩ := ih (par q) (upd w t (nI q)) (by omega) hnext hn
    refine ⟨fun j hj => (h1 j (by omega)).trans (pk_un (by omega)), fun j hj => ?_⟩
    rcases Nat.lt_or_ge j t with z | z
    · exact h2 j z
    · have ej : j = t := by omega
      subst ej
      exact ⟨q, hq, (h1 j (Nat.le_refl _)).trans pk_us⟩
section MO13
variable {d o : Nat} {A : Nat → Nat → Int32} {I : Nat → Int32} {σ0 σ : ri_S} {Q : Option Value → ri_S → Prop}
/-- the entries of the column whose leaf is f, k deep -/
def mo_ents (A : Nat → Nat → Int32) (n N : Nat) (B : Nat → Nat) (f k : Nat) : List fi_E := fi_from (va_up A 8 (mo_wy (A 0) k (nI f) (A 8))) n k B N 0
set_option maxRecDepth 100000 in
set_option maxHeartbeats 1000000 in
/-- entries(column) -/
theorem mo_entries {c : Int32} {n N : Nat} {B : Nat → Nat} (hW : mo_W o A I σ0 σ) (hI : I 4 = nI n) (hn : n ≤ 48) (hup : mo_up (A 0) n) (hde : mo_de (A 0) (A 2) n) (hN : I 11 = nI N) (hN2 : N ≤ 128) (hB : ∀ r, r ≤ N → A 7 r = nI (B r) ∧ B r ≤ 2048) (hlen : ∀ f k, k ≤ 16 → (mo_ents A n N B f k).length < 2 ^ 31)
    (kno : (I 5 = 0 ∨ mo_lf (A 3) c n = -1) → Q (some (.int (-1))) σ)
    (kyes : ∀ (σ' : ri_S) (f k : Nat) (w at' : Nat → Int32) (J : Nat → Int32), ¬ I 5 = 0 → f < n → mo_lf (A 3) c n = nI f → A 2 f = nI k → (∀ j, j < 16 → J j = I j) → J 23 = I 23 → mo_W o (va_up (va_up A 8 w) 9 at') J σ0 σ' → Q (some (.int (nI (mo_ents A n N B f k).length))) σ') :
    ev_W (d + 3) mMo_entries (0, [some (.ref o), some (.int c)], []) σ Q := by
  refine g_clV rfl rfl rfl rfl hW.1.1 rfl rfl rfl ?_
  refine mo_goesTo hW hI hn hde (fun z => ?_) (fun σ1 f k z1 z2 z3 z4 z5 z6 hW1 => ?_)
  · refine g_br rfl rfl rfl rfl rfl rfl (fun h => ?_) (fun h => absurd rfl h)
    exact g_rt rfl rfl rfl (kno z)
  · refine g_br rfl rfl rfl rfl rfl rfl (fun h => absurd h (by decide)) (fun h => ?_)
    refine g_clV rfl rfl rfl rfl hW1.1.1 rfl rfl rfl ?_
    have hw := mo_wy_in hde k (nI f) (A 8) z6 (Or.inr ⟨f, z2, rfl, z4⟩) hn
    refine mo_finds (B := B) hW1 hn hup rfl z5 z6 hw.2 hN hN2 hB (fun κ en e1 e2 => ?_) (fun _ at' σ2 hW2 => ?_)
    · exfalso
      have hl : κ < (mo_ents A n N B f k).length := (List.getElem?_eq_some_iff.mp e1).1
      exact nI_nm1 (Nat.lt_trans hl (hlen f k z6)) e2.symm
    · refine g_get rfl rfl rfl hW2.1.1 rfl ?_
      exact g_rt rfl rfl rfl (kyes σ2 f k _ at' (va_up (va_up I 16 (nI k)) 24 (nI (mo_ents A n N B f k).length)) z1 z2 z3 z4 (fun j hj => by unfold va_up; rw [if_neg (by omega), if_neg (by omega)]) rfl hW2)
/-- what entry answers of an entry -/
def mo_what (en : fi_E) (wh : Int32) : Int32 := if wh = 0 then en.1 else if wh = 1 then en.2.1 else if wh = 2 then en.2.2 else -1
set_option maxRecDepth 100000 in
set_option maxHeartbeats 1000000 in
/-- entry(column, k, what) -/
theorem mo_entry {c kk wh : Int32} {n N : Nat} {B : Nat → Nat} (hW : mo_W o A I σ0 σ) (hI : I 4 = nI n) (hn : n ≤ 48) (hup : mo_up (A 0) n) (hde : mo_de (A 0) (A 2) n) (hN : I 11 = nI N) (hN2 : N ≤ 128) (hB : ∀ r, r ≤ N → A 7 r = nI (B r) ∧ B r ≤ 2048) (hlen : ∀ f k, k ≤ 16 → (mo_ents A n N B f k).length < 2 ^ 31)
    (kno : (I 5 = 0 ∨ mo_lf (A 3) c n = -1) → Q (some (.int (-1))) σ)
    (kyes : ∀ (σ' : ri_S) (f k : Nat) (w at' : Nat → Int32) (J : Nat → Int32) (v : Int32), ¬ I 5 = 0 → f < n → mo_lf (A 3) c n = nI f → A 2 f = nI k → (∀ j, j < 16 → J j = I j) → J 23 = I 23 → mo_W o (va_up (va_up A 8 w) 9 at') J σ0 σ' →
      ((v = -1 ∧ ∀ κ, κ < (mo_ents A n N B f k).length → ¬ kk = nI κ) ∨ ∃ κ en, kk = nI κ ∧ (mo_ents A n N B f k)[κ]? = some en ∧ v = mo_what en wh) → Q (some (.int v)) σ') :
    ev_W (d + 3) mMo_entry (0, [some (.ref o), some (.int c), some (.int kk), some (.int wh)], []) σ Q := by
  refine g_clV rfl rfl rfl rfl hW.1.1 rfl rfl rfl ?_
  refine mo_goesTo hW hI hn hde (fun z => ?_) (fun σ1 f k z1 z2 z3 z4 z5 z6 hW1 => ?_)
  · refine g_br rfl rfl rfl rfl rfl rfl (fun h => ?_) (fun h => absurd rfl h)
    exact g_rt rfl rfl rfl (kno z)
  · refine g_br rfl rfl rfl rfl rfl rfl (fun h => absurd h (by decide)) (fun h => ?_)
    have hA : va_up (va_up A 8 (mo_wy (A 0) k (nI f) (A 8))) 9 (A 9) = va_up A 8 (mo_wy (A 0) k (nI f) (A 8)) := by
      funext j
      unfold va_up
      by_cases z : j = 9
      · rw [if_pos z, z, if_neg (by decide)]
      · rw [if_neg z]
    have hJ : ∀ j, j < 16 → va_up I 16 (nI k) j = I j := fun j hj => by unfold va_up; rw [if_neg (by omega)]
    refine g_br rfl rfl rfl rfl rfl rfl (fun h1 => ?_) (fun h1 => ?_)
    · refine g_rt rfl rfl rfl (kyes σ1 f k _ (A 9) (va_up I 16 (nI k)) _ z1 z2 z3 z4 hJ rfl (by rw [hA]; exact hW1) (Or.inl ⟨rfl, fun κ hκ e => ?_⟩))
      rw [e] at h1
      exact nI_pos (Nat.lt_trans hκ (hlen f k z6)) h1
    refine g_clV rfl rfl rfl rfl hW1.1.1 rfl rfl rfl ?_
    have hw := mo_wy_in hde k (nI f) (A 8) z6 (Or.inr ⟨f, z2, rfl, z4⟩) hn
    refine mo_finds (B := B) hW1 hn hup rfl z5 z6 hw.2 hN hN2 hB (fun κ en e1 e2 at' σ2 hW2 => ?_) (fun hall at' σ2 hW2 => ?_)
    · have ret : ∀ v : Int32, v = mo_what en wh → Q (some (.int v)) σ2 := fun v hv => kyes σ2 f k _ at' (va_up (va_up (va_up (va_up (va_up I 16 (nI k)) 24 (nI κ)) 17 en.1) 18 en.2.1) 19 en.2.2) v z1 z2 z3 z4 (fun j hj => by
        unfold va_up
        rw [if_neg (by omega), if_neg (by omega), if_neg (by omega), if_neg (by omega), if_neg (by omega)]) rfl hW2 (Or.inr ⟨κ, en, e2, e1, hv⟩)
      refine g_br rfl rfl rfl rfl rfl rfl (fun h2 => absurd h2 (by decide)) (fun h2 => ?_)
      refine g_br rfl rfl rfl rfl rfl rfl (fun h3 => ?_) (fun h3 => ?_)
      · refine g_get rfl rfl rfl hW2.1.1 rfl ?_
        exact g_rt rfl rfl rfl (ret _ (by unfold mo_what; rw [if_pos h3]; rfl))
      refine g_br rfl rfl rfl rfl rfl rfl (fun h4 => ?_) (fun h4 => ?_)
      · refine g_get rfl rfl rfl hW2.1.1 rfl ?_
        exact g_rt rfl rfl rfl (ret _ (by unfold mo_what; rw [if_neg h3, if_pos h4]; rfl))
      refine g_br rfl rfl rfl rfl rfl rfl (fun h5 => ?_) (fun h5 => ?_)
      · refine g_get rfl rfl rfl hW2.1.1 rfl ?_
        exact g_rt rfl rfl rfl (ret _ (by unfold mo_what; rw [if_neg h3, if_neg h4, if_pos h5]; rfl))
      · exact g_rt rfl rfl rfl (ret _ (by unfold mo_what; rw [if_neg h3, if_neg h4, if_neg h5]))
    · refine g_br rfl rfl rfl rfl rfl rfl (fun h2 => ?_) (fun h2 => absurd rfl h2)
      exact g_rt rfl rfl rfl (kyes σ2 f k _ at' (va_up (va_up I 16 (nI k)) 24 (nI (mo_ents A n N B f k).length)) _ z1 z2 z3 z4 (fun j hj => by unfold va_up; rw [if_neg (by omega), if_neg (by omega)]) rfl hW2 (Or.inl ⟨rfl, hall⟩))
end MO13
end
section
/-! THE REFERENCE: wants. -/
/-- the bit of column c in (low, high) -/
def mo_bit (lo hi c : Int32) : Prop := ((if 32 ≤ c then hi >>> ((c - 32) &&& 31) else lo >>> (c &&& 31)) &&& 1) = 1
/-- field f is a leaf whose column is chosen -/
def mo_is (G : Nat → Int32) (lo hi : Int32) (f : Nat) : Prop := G f = 0 ∧ mo_bit lo hi (nI (mo_lv G f))
/-- f and the groups around it are marked -/
def mo_mk (par : Nat → Int32) : Nat → Int32 → (Nat → Int32) → (Nat → Int32)
  | 0, _, w => w
  | m + 1, g, w => if g = -1 then w else mo_mk par m (par g.toNatClampNeg) (upd w g.toNatClampNeg 1)
def mo_z (w : Nat → Int32) (i : Nat) : Nat → Int32 := fun j => if j < i then 0 else w j
theorem mo_z_s (w : Nat → Int32) (i : Nat) : upd (mo_z w i) i 0 = mo_z w (i + 1) := by
  funext j
  unfold upd mo_z
  by_cases e : j = i
  · rw [if_pos e, if_pos (by omega)]
  · by_cases h : j < i
    · rw [if_neg e, if_pos h, if_pos (by omega)]
    · rw [if_neg e, if_neg h, if_neg (by omega)]
theorem mo_z_0 (w : Nat → Int32) : mo_z w 0 = w := by
  funext j
  unfold mo_z
  rw [if_neg (by omega)]
/-- marked behind the first i fields -/
noncomputable def mo_wd (par G : Nat → Int32) (lo hi : Int32) (n : Nat) (w : Nat → Int32) : Nat → (Nat → Int32)
  | 0 => w
  | i + 1 => by
    classical exact if mo_is G lo hi i then mo_mk par n (nI i) (mo_wd par G lo hi n w i) else mo_wd par G lo hi n w i
section MO14
variable {d o : Nat} {A : Nat → Nat → Int32} {I : Nat → Int32} {σ0 σ : ri_S} {Q : Option Value → ri_S → Prop}
set_option maxRecDepth 100000 in
theorem mo_wants_zero {lo hi : Int32} {n : Nat} (hI : I 4 = nI n) (hn : n ≤ 48) (w : Nat → Int32) (kk : ∀ σ' : ri_S, mo_W o (va_up A 10 (mo_z w n)) I σ0 σ' → ev_W (d + 1) mMo_wants (23, [some (.ref o), some (.int lo), some (.int hi), some (.int (nI n)), none, none, none], []) σ' Q) : ∀ (t i : Nat) (σ : ri_S), i + t = n → mo_W o (va_up A 10 (mo_z w i)) I σ0 σ → ev_W (d + 1) mMo_wants (2, [some (.ref o), some (.int lo), some (.int hi), some (.int (nI i)), none, none, none], []) σ Q := by
  intro t
  induction t with
  | zero =>
    intro i σ hit hW
    obtain rfl : i = n := by omega
    refine g_get rfl rfl rfl hW.1.1 rfl ?_
    refine g_br rfl rfl rfl rfl rfl rfl (fun h1 => ?_) (fun h1 => absurd (by rw [hI]; exact nI_le (Nat.le_refl _) (by omega)) h1)
    exact kk σ hW
  | succ t ih =>
    intro i σ hit hW
    refine g_get rfl rfl rfl hW.1.1 rfl ?_
    refine g_br rfl rfl rfl rfl rfl rfl (fun h1 => absurd h1 (by rw [hI]; exact nI_ge (by omega) (by omega))) (fun h1 => ?_)
    refine g_get rfl rfl rfl hW.1.1 rfl ?_
    refine mo_zst hW 10 rfl rfl rfl rfl (show i < 48 by omega) (by decide) rfl (Or.inl rfl) (fun σ1 hW1 => ?_)
    rw [bx_uu] at hW1
    change mo_W o (va_up A 10 (upd (mo_z w i) i 0)) I σ0 σ1 at hW1
    rw [mo_z_s] at hW1
    refine ev_go 2 rfl ?_
    show ev_W (d + 1) mMo_wants (2, [some (.ref o), some (.int lo), some (.int hi), some (.int (nI i + 1)), none, none, none], []) σ1 Q
    rw [nI_1]
    exact ih (i + 1) σ1 (by omega) hW1
set_option maxRecDepth 100000 in
theorem mo_wants_mark {lo hi c : Int32} {n i : Nat} (hn : n ≤ 48) (hup : mo_up (A 0) n) : ∀ (m : Nat) (g : Int32) (w : Nat → Int32) (σ : ri_S), (g = -1 ∨ ∃ p, p < m ∧ g = nI p) → m ≤ n → mo_W o (va_up A 10 w) I σ0 σ →
    (∀ (σ' : ri_S) (g' : Int32), mo_W o (va_up A 10 (mo_mk (A 0) m g w)) I σ0 σ' → ev_W (d + 1) mMo_wants (114, [some (.ref o), some (.int lo), some (.int hi), some (.int (nI i)), some (.int c), some (.int 1), some (.int g')], []) σ' Q) → ev_W (d + 1) mMo_wants (83, [some (.ref o), some (.int lo), some (.int hi), some (.int (nI i)), some (.int c), some (.int 1), some (.int g)], []) σ Q := by
  intro m
  induction m with
  | zero =>
    intro g w σ hg hm hW kk
    obtain rfl : g = -1 := by
      rcases hg with h | ⟨p, hp, -⟩
      · exact h
      · exact absurd hp (Nat.not_lt_zero _)
    refine g_br rfl rfl rfl rfl rfl rfl (fun h1 => ?_) (fun h1 => absurd rfl h1)
    exact kk σ _ hW
  | succ m ih =>
    intro g w σ hg hm hW kk
    refine g_br rfl rfl rfl rfl rfl rfl (fun h1 => ?_) (fun h1 => ?_)
    · unfold mo_mk at kk
      rw [if_pos h1] at kk
      exact kk σ _ hW
    · obtain ⟨p, hp, rfl⟩ := hg.resolve_left h1
      unfold mo_mk at kk
      rw [if_neg h1, nI_clamp (by omega)] at kk
      refine g_br rfl rfl rfl rfl rfl rfl (fun h2 => absurd h2 (by decide)) (fun h2 => ?_)
      refine g_get rfl rfl rfl hW.1.1 rfl ?_
      refine mo_zst hW 10 rfl rfl rfl rfl (show p < 48 by omega) (by decide) rfl (Or.inr rfl) (fun σ1 hW1 => ?_)
      rw [bx_uu] at hW1
      change mo_W o (va_up A 10 (upd w p 1)) I σ0 σ1 at hW1
      refine g_get rfl rfl rfl hW1.1.1 rfl ?_
      refine mo_ald hW1.1 0 rfl rfl rfl rfl (show p < 48 by omega) (by decide) rfl ?_
      refine ev_go 2 rfl ?_
      refine ih (A 0 p) _ σ1 ?_ (by omega) hW1 kk
      rcases hup p (by omega) with q | ⟨z, hz, q⟩
      · exact Or.inl q
      · exact Or.inr ⟨z, by omega, q⟩
set_option maxRecDepth 100000 in
set_option maxHeartbeats 1000000 in
theorem mo_wants_loop {lo hi : Int32} {n : Nat} (hI : I 4 = nI n) (hn : n ≤ 48) (hup : mo_up (A 0) n) (w : Nat → Int32) (kk : ∀ σ' : ri_S, mo_W o (va_up A 10 (mo_wd (A 0) (A 3) lo hi n w n)) I σ0 σ' → Q none σ') : ∀ (t i : Nat) (σ : ri_S) (x4 x5 x6 : Option Value), i + t = n → mo_W o (va_up A 10 (mo_wd (A 0) (A 3) lo hi n w i)) I σ0 σ → ev_W (d + 1) mMo_wants (25, [some (.ref o), some (.int lo), some (.int hi), some (.int (nI i)), x4, x5, x6], []) σ Q := by
  intro t
  induction t with
  | zero =>
    intro i σ x4 x5 x6 hit hW
    obtain rfl : i = n := by omega
    refine g_get rfl rfl rfl hW.1.1 rfl ?_
    refine g_br rfl rfl rfl rfl rfl rfl (fun h1 => ?_) (fun h1 => absurd (by rw [hI]; exact nI_le (Nat.le_refl _) (by omega)) h1)
    exact g_rt rfl rfl rfl (kk σ hW)
  | succ t ih =>
    intro i σ x4 x5 x6 hit hW
    refine g_get rfl rfl rfl hW.1.1 rfl ?_
    refine g_br rfl rfl rfl rfl rfl rfl (fun h1 => absurd h1 (by rw [hI]; exact nI_ge (by omega) (by omega))) (fun h1 => ?_)
    refine g_clV rfl rfl rfl rfl hW.1.1 rfl rfl rfl ?_
    refine mo_columnOf hW.1 rfl (show i < 48 by omega) ?_
    show ev_W (d + 1) mMo_wants (38, [some (.ref o), some (.int lo), some (.int hi), some (.int (nI i)), x4, x5, x6], [.int (if A 3 i = 0 then nI (mo_lv (A 3) i) else -1)]) σ Q
    have eW : mo_wd (A 0) (A 3) lo hi n w (i + 1) = by classical exact if mo_is (A 3) lo hi i then mo_mk (A 0) n (nI i) (mo_wd (A 0) (A 3) lo hi n w i) else mo_wd (A 0) (A 3) lo hi n w i := rfl
    have nxt : ∀ (σ' : ri_S) (y4 y5 y6 : Int32), mo_W o (va_up A 10 (mo_wd (A 0) (A 3) lo hi n w (i + 1))) I σ0 σ' → ev_W (d + 1) mMo_wants (114, [some (.ref o), some (.int lo), some (.int hi), some (.int (nI i)), some (.int y4), some (.int y5), some (.int y6)], []) σ' Q := by
      intro σ' y4 y5 y6 hW'
      refine ev_go 2 rfl ?_
      show ev_W (d + 1) mMo_wants (25, [some (.ref o), some (.int lo), some (.int hi), some (.int (nI i + 1)), some (.int y4), some (.int y5), some (.int y6)], []) σ' Q
      rw [nI_1]
      exact ih (i + 1) σ' _ _ _ (by omega) hW'
    have no : ∀ y4 : Int32, ¬ mo_is (A 3) lo hi i → ev_W (d + 1) mMo_wants (77, [some (.ref o), some (.int lo), some (.int hi), some (.int (nI i)), some (.int y4), x5, x6], []) σ Q := by
      intro y4 hno
      refine ev_go 4 rfl ?_
      show ev_W (d + 1) mMo_wants (83, [some (.ref o), some (.int lo), some (.int hi), some (.int (nI i)), some (.int y4), some (.int 0), some (.int (nI i))], []) σ Q
      refine g_br rfl rfl rfl rfl rfl rfl (fun h2 => absurd h2 (nI_nm1 (by omega))) (fun h2 => ?_)
      refine g_br rfl rfl rfl rfl rfl rfl (fun h3 => ?_) (fun h3 => absurd rfl h3)
      refine nxt σ _ _ _ ?_
      rw [eW, if_neg hno]
      exact hW
    by_cases hg : A 3 i = 0
    · rw [if_pos hg]
      have hlv : mo_lv (A 3) i < 2 ^ 31 := by have := mo_lv_le (A 3) i; omega
      refine g_br rfl rfl rfl rfl rfl rfl (fun h2 => absurd h2 (nI_nm1 hlv)) (fun h2 => ?_)
      have tst : ∀ y : Int32, y = (if 32 ≤ nI (mo_lv (A 3) i) then hi >>> ((nI (mo_lv (A 3) i) - 32) &&& 31) else lo >>> (nI (mo_lv (A 3) i) &&& 31)) → ev_W (d + 1) mMo_wants (67, [some (.ref o), some (.int lo), some (.int hi), some (.int (nI i)), some (.int (nI (mo_lv (A 3) i))), x5, x6], [.int y]) σ Q := by
        intro y hy
        refine g_br rfl rfl rfl rfl rfl rfl (fun h3 => ?_) (fun h3 => ?_)
        · have his : mo_is (A 3) lo hi i := ⟨hg, by unfold mo_bit; rw [← hy]; exact h3⟩
          refine ev_go 5 rfl ?_
          show ev_W (d + 1) mMo_wants (83, [some (.ref o), some (.int lo), some (.int hi), some (.int (nI i)), some (.int (nI (mo_lv (A 3) i))), some (.int 1), some (.int (nI i))], []) σ Q
          refine mo_wants_mark hn hup n (nI i) _ σ (Or.inr ⟨i, by omega, rfl⟩) (Nat.le_refl _) hW (fun σ' g' hW' => ?_)
          refine nxt σ' _ _ _ ?_
          rw [eW, if_pos his]
          exact hW'
        · exact no _ (fun z => h3 (by have := z.2; unfold mo_bit at this; rw [← hy] at this; exact this))
      refine g_br rfl rfl rfl rfl rfl rfl (fun h3 => ?_) (fun h3 => ?_)
      · refine ev_go 5 rfl ?_
        exact tst _ (by rw [if_pos h3])
      · refine ev_go 4 rfl ?_
        exact tst _ (by rw [if_neg h3])
    · rw [if_neg hg]
      refine g_br rfl rfl rfl rfl rfl rfl (fun h2 => ?_) (fun h2 => absurd rfl h2)
      exact no _ (fun z => hg z.1)
set_option maxRecDepth 100000 in
/-- wants(low, high) -/
theorem mo_wants {lo hi : Int32} {n : Nat} (hW : mo_W o A I σ0 σ) (hI : I 4 = nI n) (hn : n ≤ 48) (hup : mo_up (A 0) n) (kk : ∀ σ' : ri_S, mo_W o (va_up A 10 (mo_wd (A 0) (A 3) lo hi n (mo_z (A 10) n) n)) I σ0 σ' → Q none σ') : ev_W (d + 1) mMo_wants (0, [some (.ref o), some (.int lo), some (.int hi), none, none, none, none], []) σ Q := by
  refine ev_go 2 rfl ?_
  have hA : va_up A 10 (mo_z (A 10) 0) = A := by
    rw [mo_z_0]
    funext j
    unfold va_up
    by_cases z : j = 10
    · rw [if_pos z, z]
    · rw [if_neg z]
  refine mo_wants_zero hI hn (A 10) (fun σ1 hW1 => ?_) n 0 σ (by omega) (by rw [hA]; exact hW)
  refine ev_go 2 rfl ?_
  exact mo_wants_loop hI hn hup (mo_z (A 10) n) kk n 0 σ1 none none none (by omega) hW1
end MO14
end
section
/-! THE REFERENCE: assemble. -/
abbrev as_E : Type := Int32 × Int32
/-- the two rows hold the events l -/
def as_h (a b : Nat → Int32) (l : List as_E) : Prop := ∀ (κ : Nat) (en : as_E), l[κ]? = some en → a κ = en.1 ∧ b κ = en.2
theorem as_h.add {a b : Nat → Int32} {l : List as_E} (h : as_h a b l) (e x : Int32) : as_h (upd a l.length e) (upd b l.length x) (l ++ [(e, x)]) := by
  intro κ en hκ
  rcases Nat.lt_or_ge κ l.length with z | z
  · rw [List.getElem?_append_left z] at hκ
    rw [pk_un (by omega), pk_un (by omega)]
    exact h κ en hκ
  · rw [List.getElem?_append_right z] at hκ
    have hz : κ - l.length < 1 := (List.getElem?_eq_some_iff.mp hκ).1
    have e0 : κ = l.length := by omega
    subst e0
    rw [Nat.sub_self] at hκ
    cases hκ
    exact ⟨pk_us, pk_us⟩
/-- groups end, from the one that is open up to tg -/
def as_pp (ofs aro : Nat → Int32) (tg : Int32) : Nat → Int32 → List as_E
  | 0, _ => []
  | m + 1, i => if i = tg then [] else (2 * ofs i.toNatClampNeg + 1, 0) :: as_pp ofs aro tg m (aro i.toNatClampNeg)
/-- tg is reached so, in at most so many steps, over the first M occurrences -/
def as_rc (aro : Nat → Int32) (M : Nat) (tg : Int32) : Nat → Int32 → Prop
  | 0, i => i = tg
  | m + 1, i => i = tg ∨ ∃ q, q < M ∧ i = nI q ∧ as_rc aro M tg m (aro q)
/-- the events of the t occurrences from k on -/
def as_ev (ofs aro val G w : Nat → Int32) (m : Nat) : Nat → Nat → Int32 → List as_E
  | 0, _, i => as_pp ofs aro (-1) m i
  | t + 1, k, i => if w (ofs k).toNatClampNeg = 0 then as_ev ofs aro val G w m t (k + 1) i else as_pp ofs aro (aro k) m i ++ (2 * ofs k, val k) :: as_ev ofs aro val G w m t (k + 1) (if G (ofs k).toNatClampNeg = 0 then aro k else nI k)
/-- they can be told -/
def as_ok (ofs aro G w : Nat → Int32) (M m : Nat) : Nat → Nat → Int32 → Prop
  | 0, _, i => as_rc aro M (-1) m i
  | t + 1, k, i => (∃ f, f < 48 ∧ ofs k = nI f) ∧ (w (ofs k).toNatClampNeg = 0 → as_ok ofs aro G w M m t (k + 1) i) ∧ (¬ w (ofs k).toNatClampNeg = 0 → as_rc aro M (aro k) m i ∧ as_ok ofs aro G w M m t (k + 1) (if G (ofs k).toNatClampNeg = 0 then aro k else nI k))
theorem as_va {F : Nat → Nat → Int32} {a b a' b' : Nat → Int32} : va_up (va_up (va_up (va_up F 11 a) 12 b) 11 a') 12 b' = va_up (va_up F 11 a') 12 b' := by
  funext j
  unfold va_up
  by_cases h : j = 12
  · simp [h]
  · by_cases g : j = 11
    · simp [g]
    · simp [h, g]
section MO15
variable {d o : Nat} {A : Nat → Nat → Int32} {I : Nat → Int32} {σ0 : ri_S} {Q : Option Value → ri_S → Prop}
/-- the reference's world while it tells: l so far -/
def as_W (o : Nat) (A : Nat → Nat → Int32) (I : Nat → Int32) (l : List as_E) (σ0 σ : ri_S) : Prop := ∃ a b : Nat → Int32, as_h a b l ∧ mo_W o (va_up (va_up A 11 a) 12 b) (va_up I 23 (nI l.length)) σ0 σ
theorem as_tell {e x : Int32} {l : List as_E} {σ : ri_S} (hW : as_W o A I l σ0 σ) (hl : l.length < 4096) (kk : ∀ σ' : ri_S, as_W o A I (l ++ [(e, x)]) σ0 σ' → Q none σ') : ev_W d mMo_tells (0, [some (.ref o), some (.int e), some (.int x)], []) σ Q := by
  obtain ⟨a, b, h1, h2⟩ := hW
  refine mo_tells h2 rfl hl (fun σ' h' => kk σ' ⟨upd a l.length e, upd b l.length x, h1.add e x, ?_⟩)
  rw [as_va, bx_uu] at h'
  rw [List.length_append]
  exact h'
set_option maxRecDepth 100000 in
theorem as_pop1 {rc lo hi tg : Int32} {k M : Nat} (hM : M ≤ 2048) (hk : k < M) (htg : A 6 k = tg) : ∀ (m : Nat) (i : Int32) (l : List as_E) (σ : ri_S), as_rc (A 6) M tg m i → as_W o A I l σ0 σ → (l ++ as_pp (A 4) (A 6) tg m i).length ≤ 4096 →
    (∀ σ' : ri_S, as_W o A I (l ++ as_pp (A 4) (A 6) tg m i) σ0 σ' → ev_W (d + 1) mMo_assemble (107, [some (.ref o), some (.int rc), some (.int lo), some (.int hi), some (.int tg), some (.int (nI k))], []) σ' Q) → ev_W (d + 1) mMo_assemble (67, [some (.ref o), some (.int rc), some (.int lo), some (.int hi), some (.int i), some (.int (nI k))], []) σ Q := by
  intro m
  induction m with
  | zero =>
    intro i l σ hr hW hl kd
    obtain rfl : i = tg := hr
    obtain ⟨a, b, h1, h2⟩ := id hW
    refine g_get rfl rfl rfl h2.1.1 rfl ?_
    refine mo_ald h2.1 6 rfl rfl rfl rfl (show k < 2048 by omega) (by decide) rfl ?_
    refine g_br rfl rfl rfl rfl rfl rfl (fun h => ?_) (fun h => absurd htg.symm h)
    exact kd σ (by rw [show as_pp (A 4) (A 6) i 0 i = [] from rfl, List.append_nil]; exact hW)
  | succ m ih =>
    intro i l σ hr hW hl kd
    obtain ⟨a, b, h1, h2⟩ := id hW
    refine g_get rfl rfl rfl h2.1.1 rfl ?_
    refine mo_ald h2.1 6 rfl rfl rfl rfl (show k < 2048 by omega) (by decide) rfl ?_
    have eP : as_pp (A 4) (A 6) tg (m + 1) i = if i = tg then [] else (2 * A 4 i.toNatClampNeg + 1, 0) :: as_pp (A 4) (A 6) tg m (A 6 i.toNatClampNeg) := rfl
    rw [eP] at hl kd
    refine g_br rfl rfl rfl rfl rfl rfl (fun h => ?_) (fun h => ?_)
    · have e : i = tg := h.trans htg
      rw [if_pos e, List.append_nil] at kd
      subst e
      exact kd σ hW
    · have e : ¬ i = tg := fun z => h (z.trans htg.symm)
      rw [if_neg e] at hl kd
      obtain ⟨q, hq, rfl, hr2⟩ := hr.resolve_left e
      rw [nI_clamp (by omega)] at hl kd
      rw [List.length_append, List.length_cons] at hl
      refine g_get rfl rfl rfl h2.1.1 rfl ?_
      refine mo_ald h2.1 4 rfl rfl rfl rfl (show q < 2048 by omega) (by decide) rfl ?_
      refine g_clV rfl rfl rfl rfl h2.1.1 rfl rfl rfl ?_
      refine as_tell hW (by omega) (fun σ1 hW1 => ?_)
      obtain ⟨a1, b1, h3, h4⟩ := id hW1
      refine g_get rfl rfl rfl h4.1.1 rfl ?_
      refine mo_ald h4.1 6 rfl rfl rfl rfl (show q < 2048 by omega) (by decide) rfl ?_
      refine ev_go 2 rfl ?_
      refine ih (A 6 q) _ σ1 hr2 hW1 ?_ (fun σ2 hW2 => kd σ2 ?_)
      · rw [List.length_append, List.length_append]
        show l.length + 1 + _ ≤ _
        omega
      · rw [List.append_assoc] at hW2
        exact hW2
set_option maxRecDepth 100000 in
theorem as_pop2 {rc lo hi k : Int32} {M : Nat} (hM : M ≤ 2048) : ∀ (m : Nat) (i : Int32) (l : List as_E) (σ : ri_S), as_rc (A 6) M (-1) m i → as_W o A I l σ0 σ → (l ++ as_pp (A 4) (A 6) (-1) m i).length ≤ 4096 →
    (∀ σ' : ri_S, as_W o A I (l ++ as_pp (A 4) (A 6) (-1) m i) σ0 σ' → Q (some (.int (nI (l ++ as_pp (A 4) (A 6) (-1) m i).length))) σ') → ev_W (d + 1) mMo_assemble (157, [some (.ref o), some (.int rc), some (.int lo), some (.int hi), some (.int i), some (.int k)], []) σ Q := by
  intro m
  induction m with
  | zero =>
    intro i l σ hr hW hl kd
    obtain rfl : i = -1 := hr
    rw [show as_pp (A 4) (A 6) (-1) 0 (-1) = [] from rfl, List.append_nil] at kd
    obtain ⟨a, b, h1, h2⟩ := id hW
    refine g_br rfl rfl rfl rfl rfl rfl (fun h => ?_) (fun h => absurd rfl h)
    refine g_get rfl rfl rfl h2.1.1 rfl ?_
    exact g_rt rfl rfl rfl (kd σ hW)
  | succ m ih =>
    intro i l σ hr hW hl kd
    obtain ⟨a, b, h1, h2⟩ := id hW
    have eP : as_pp (A 4) (A 6) (-1) (m + 1) i = if i = -1 then [] else (2 * A 4 i.toNatClampNeg + 1, 0) :: as_pp (A 4) (A 6) (-1) m (A 6 i.toNatClampNeg) := rfl
    rw [eP] at hl kd
    refine g_br rfl rfl rfl rfl rfl rfl (fun h => ?_) (fun h => ?_)
    · rw [if_pos h, List.append_nil] at kd
      refine g_get rfl rfl rfl h2.1.1 rfl ?_
      exact g_rt rfl rfl rfl (kd σ hW)
    · rw [if_neg h] at hl kd
      obtain ⟨q, hq, rfl, hr2⟩ := hr.resolve_left h
      rw [nI_clamp (by omega)] at hl kd
      rw [List.length_append, List.length_cons] at hl
      refine g_get rfl rfl rfl h2.1.1 rfl ?_
      refine mo_ald h2.1 4 rfl rfl rfl rfl (show q < 2048 by omega) (by decide) rfl ?_
      refine g_clV rfl rfl rfl rfl h2.1.1 rfl rfl rfl ?_
      refine as_tell hW (by omega) (fun σ1 hW1 => ?_)
      obtain ⟨a1, b1, h3, h4⟩ := id hW1
      refine g_get rfl rfl rfl h4.1.1 rfl ?_
      refine mo_ald h4.1 6 rfl rfl rfl rfl (show q < 2048 by omega) (by decide) rfl ?_
      refine ev_go 2 rfl ?_
      refine ih (A 6 q) _ σ1 hr2 hW1 ?_ (fun σ2 hW2 => ?_)
      · rw [List.length_append, List.length_append]
        show l.length + 1 + _ ≤ _
        omega
      · rw [List.append_assoc] at hW2 ⊢
        exact kd σ2 hW2
set_option maxRecDepth 100000 in
set_option maxHeartbeats 1000000 in
theorem as_loop {rc lo hi : Int32} {M m e u : Nat} (hM : M ≤ 2048) (he : A 7 u = nI e) (heM : e ≤ M) (hu : u < 129) (hrc : rc + 1 = nI u) : ∀ (t k : Nat) (i : Int32) (l : List as_E) (σ : ri_S), k + t = e → as_ok (A 4) (A 6) (A 3) (A 10) M m t k i → as_W o A I l σ0 σ → (l ++ as_ev (A 4) (A 6) (A 5) (A 3) (A 10) m t k i).length ≤ 4096 →
    (∀ σ' : ri_S, as_W o A I (l ++ as_ev (A 4) (A 6) (A 5) (A 3) (A 10) m t k i) σ0 σ' → Q (some (.int (nI (l ++ as_ev (A 4) (A 6) (A 5) (A 3) (A 10) m t k i).length))) σ') → ev_W (d + 1) mMo_assemble (36, [some (.ref o), some (.int rc), some (.int lo), some (.int hi), some (.int i), some (.int (nI k))], []) σ Q := by
  intro t
  induction t with
  | zero =>
    intro k i l σ hk hok hW hl kd
    obtain ⟨a, b, h1, h2⟩ := id hW
    refine g_get rfl rfl rfl h2.1.1 rfl ?_
    refine mo_ald h2.1 7 rfl rfl rfl hrc hu (by decide) rfl ?_
    refine g_br rfl rfl rfl rfl rfl rfl (fun h => ?_) (fun h => absurd (by show A 7 u ≤ _; rw [he]; exact nI_le (by omega) (by omega)) h)
    exact as_pop2 hM m i l σ hok hW hl kd
  | succ t ih =>
    intro k i l σ hk hok hW hl kd
    obtain ⟨⟨f, hf, ef⟩, ok0, ok1⟩ := hok
    have hf31 : f < 2 ^ 31 := by omega
    obtain ⟨a, b, h1, h2⟩ := id hW
    refine g_get rfl rfl rfl h2.1.1 rfl ?_
    refine mo_ald h2.1 7 rfl rfl rfl hrc hu (by decide) rfl ?_
    refine g_br rfl rfl rfl rfl rfl rfl (fun h => absurd h (by show ¬ A 7 u ≤ _; rw [he]; exact nI_ge (by omega) (by omega))) (fun h => ?_)
    refine g_get rfl rfl rfl h2.1.1 rfl ?_
    refine g_get rfl rfl rfl h2.1.1 rfl ?_
    refine mo_ald h2.1 4 rfl rfl rfl rfl (show k < 2048 by omega) (by decide) rfl ?_
    refine mo_zld h2.1 10 rfl rfl rfl (i := f) ef hf (by decide) rfl ?_
    have eE : as_ev (A 4) (A 6) (A 5) (A 3) (A 10) m (t + 1) k i = if A 10 (A 4 k).toNatClampNeg = 0 then as_ev (A 4) (A 6) (A 5) (A 3) (A 10) m t (k + 1) i else as_pp (A 4) (A 6) (A 6 k) m i ++ (2 * A 4 k, A 5 k) :: as_ev (A 4) (A 6) (A 5) (A 3) (A 10) m t (k + 1) (if A 3 (A 4 k).toNatClampNeg = 0 then A 6 k else nI k) := rfl
    rw [eE, ef, nI_clamp hf31] at hl kd
    rw [ef, nI_clamp hf31] at ok0 ok1
    have nxt : ∀ (i' : Int32) (l' : List as_E) (σ' : ri_S), as_ok (A 4) (A 6) (A 3) (A 10) M m t (k + 1) i' → as_W o A I l' σ0 σ' → (l' ++ as_ev (A 4) (A 6) (A 5) (A 3) (A 10) m t (k + 1) i').length ≤ 4096 → (∀ σ2 : ri_S, as_W o A I (l' ++ as_ev (A 4) (A 6) (A 5) (A 3) (A 10) m t (k + 1) i') σ0 σ2 → Q (some (.int (nI (l' ++ as_ev (A 4) (A 6) (A 5) (A 3) (A 10) m t (k + 1) i').length))) σ2) → ev_W (d + 1) mMo_assemble (151, [some (.ref o), some (.int rc), some (.int lo), some (.int hi), some (.int i'), some (.int (nI k))], []) σ' Q := by
      intro i' l' σ' q1 q2 q3 q4
      refine ev_go 2 rfl ?_
      show ev_W (d + 1) mMo_assemble (36, [some (.ref o), some (.int rc), some (.int lo), some (.int hi), some (.int i'), some (.int (nI k + 1))], []) σ' Q
      rw [nI_1]
      exact ih (k + 1) i' l' σ' (by omega) q1 q2 q3 q4
    refine g_br rfl rfl rfl rfl rfl rfl (fun h3 => ?_) (fun h3 => ?_)
    · have h3' : A 10 f = 0 := h3
      rw [if_pos h3'] at hl kd
      refine ev_go 1 rfl ?_
      exact nxt i l σ (ok0 h3') hW hl kd
    · have h3' : ¬ A 10 f = 0 := h3
      rw [if_neg h3'] at hl kd
      obtain ⟨hr, hok2⟩ := ok1 h3'
      rw [List.length_append, List.length_append, List.length_cons] at hl
      refine as_pop1 (M := M) (tg := A 6 k) hM (by omega) rfl m i l σ hr hW (by rw [List.length_append]; omega) (fun σ1 hW1 => ?_)
      obtain ⟨a1, b1, h4, h5⟩ := id hW1
      refine g_get rfl rfl rfl h5.1.1 rfl ?_
      refine mo_ald h5.1 4 rfl rfl rfl rfl (show k < 2048 by omega) (by decide) rfl ?_
      refine g_get rfl rfl rfl h5.1.1 rfl ?_
      refine mo_ald h5.1 5 rfl rfl rfl rfl (show k < 2048 by omega) (by decide) rfl ?_
      refine g_clV rfl rfl rfl rfl h5.1.1 rfl rfl rfl ?_
      refine as_tell hW1 (by rw [List.length_append]; omega) (fun σ2 hW2 => ?_)
      obtain ⟨a2, b2, h6, h7⟩ := id hW2
      refine g_get rfl rfl rfl h7.1.1 rfl ?_
      refine g_get rfl rfl rfl h7.1.1 rfl ?_
      refine mo_ald h7.1 4 rfl rfl rfl rfl (show k < 2048 by omega) (by decide) rfl ?_
      refine mo_zld h7.1 3 rfl rfl rfl (i := f) ef hf (by decide) rfl ?_
      have eapp : ∀ X : List as_E, l ++ (as_pp (A 4) (A 6) (A 6 k) m i ++ (2 * nI f, A 5 k) :: X) = (l ++ as_pp (A 4) (A 6) (A 6 k) m i ++ [(2 * nI f, A 5 k)]) ++ X := fun X => by simp [List.append_assoc]
      have hW3 : as_W o A I (l ++ as_pp (A 4) (A 6) (A 6 k) m i ++ [(2 * nI f, A 5 k)]) σ0 σ2 := by
        have := hW2
        rw [show (va_up (va_up A 11 a1) 12 b1 4 k) = A 4 k from rfl, ef] at this
        exact this
      have hlen : ∀ X : List as_E, (l ++ as_pp (A 4) (A 6) (A 6 k) m i ++ [(2 * nI f, A 5 k)] ++ X).length = l.length + ((as_pp (A 4) (A 6) (A 6 k) m i).length + (X.length + 1)) := fun X => by simp [List.length_append]
      refine g_br rfl rfl rfl rfl rfl rfl (fun h8 => ?_) (fun h8 => ?_)
      · have h8' : A 3 f = 0 := h8
        rw [if_pos h8'] at hl kd hok2
        refine ev_go 2 rfl ?_
        refine nxt (A 6 k) _ σ2 hok2 hW3 (by rw [hlen]; exact hl) (fun σ3 hW4 => ?_)
        rw [← eapp] at hW4 ⊢
        exact kd σ3 hW4
      · have h8' : ¬ A 3 f = 0 := h8
        rw [if_neg h8'] at hl kd hok2
        refine ev_go 3 rfl ?_
        refine nxt (nI k) _ σ2 hok2 hW3 (by rw [hlen]; exact hl) (fun σ3 hW4 => ?_)
        rw [← eapp] at hW4 ⊢
        exact kd σ3 hW4
set_option maxRecDepth 100000 in
set_option maxHeartbeats 1000000 in
/-- assemble(record, low, high) -/
theorem mo_assemble {rc lo hi : Int32} {n N M m : Nat} {B : Nat → Nat} {σ : ri_S} (hW : mo_W o A I σ0 σ) (hI : I 4 = nI n) (hn : n ≤ 48) (hup : mo_up (A 0) n) (hN : I 11 = nI N) (hN2 : N ≤ 128) (hB : ∀ r, r ≤ N → A 7 r = nI (B r) ∧ B r ≤ M) (hM : M ≤ 2048) (hmono : ∀ r, r < N → B r ≤ B (r + 1))
    (hok : ∀ r w, r < N → w = mo_wd (A 0) (A 3) lo hi n (mo_z (A 10) n) n → as_ok (A 4) (A 6) (A 3) w M m (B (r + 1) - B r) (B r) (-1) ∧ (as_ev (A 4) (A 6) (A 5) (A 3) w m (B (r + 1) - B r) (B r) (-1)).length ≤ 4096)
    (kno : (rc < 0 ∨ nI N ≤ rc) → ∀ σ' : ri_S, mo_W o A (va_up I 23 0) σ0 σ' → Q (some (.int (-1))) σ')
    (kyes : ∀ (r : Nat) (w a b : Nat → Int32) (L : List as_E) (σ' : ri_S), r < N → rc = nI r → w = mo_wd (A 0) (A 3) lo hi n (mo_z (A 10) n) n → L = as_ev (A 4) (A 6) (A 5) (A 3) w m (B (r + 1) - B r) (B r) (-1) → as_h a b L → L.length ≤ 4096 → mo_W o (va_up (va_up (va_up A 10 w) 11 a) 12 b) (va_up I 23 (nI L.length)) σ0 σ' → Q (some (.int (nI L.length))) σ') :
    ev_W (d + 2) mMo_assemble (0, [some (.ref o), some (.int rc), some (.int lo), some (.int hi), none, none], []) σ Q := by
  refine mo_set hW rfl rfl rfl rfl rfl rfl rfl (fun σ1 hW1 => ?_)
  refine g_br rfl rfl rfl rfl rfl rfl (fun h1 => ?_) (fun h1 => ?_)
  · exact g_rt rfl rfl rfl (kno (Or.inl h1) σ1 hW1)
  refine g_get rfl rfl rfl hW1.1.1 rfl ?_
  refine g_br rfl rfl rfl rfl rfl rfl (fun h2 => ?_) (fun h2 => ?_)
  rotate_left
  · exact g_rt rfl rfl rfl (kno (Or.inr (by rw [← hN]; exact Int32.not_lt.mp h2)) σ1 hW1)
  obtain ⟨r, hr31, er⟩ := nI_of h1
  have hrN : r < N := by
    have h3 : rc < I 11 := h2
    rw [hN, er] at h3
    exact (nI_ltI hr31 (by omega)).mp h3
  subst er
  refine g_clV rfl rfl rfl rfl hW1.1.1 rfl rfl rfl ?_
  refine mo_wants hW1 hI hn hup (fun σ2 hW2 => ?_)
  generalize hw : mo_wd (A 0) (A 3) lo hi n (mo_z (A 10) n) n = w at hW2
  obtain ⟨hok1, hok2⟩ := hok r w hrN hw.symm
  refine g_get rfl rfl rfl hW2.1.1 rfl ?_
  refine mo_ald hW2.1 7 rfl rfl rfl rfl (show r < 129 by omega) (by decide) rfl ?_
  refine ev_go 1 rfl ?_
  have eb : va_up A 10 w 7 r = nI (B r) := (hB r (by omega)).1
  show ev_W (d + 2) mMo_assemble (36, [some (.ref o), some (.int (nI r)), some (.int lo), some (.int hi), some (.int (-1)), some (.int (va_up A 10 w 7 r))], []) σ2 Q
  rw [eb]
  have hA : va_up (va_up (va_up A 10 w) 11 (A 11)) 12 (A 12) = va_up A 10 w := by
    funext j
    unfold va_up
    by_cases z : j = 12
    · simp [z]
    · by_cases z2 : j = 11
      · simp [z2]
      · simp [z, z2]
  refine as_loop (A := va_up A 10 w) (I := I) (M := M) (m := m) (e := B (r + 1)) (u := r + 1) hM (hB (r + 1) (by omega)).1 (hB (r + 1) (by omega)).2 (by omega) (nI_1 r) (B (r + 1) - B r) (B r) (-1) [] σ2 (by have := hmono r hrN; omega) hok1 ⟨A 11, A 12, fun κ en hκ => by simp at hκ, by rw [hA]; exact hW2⟩ hok2 (fun σ3 hW3 => ?_)
  obtain ⟨a, b, h5, h6⟩ := hW3
  exact kyes r w a b _ σ3 hrN rfl hw.symm rfl h5 hok2 h6
end MO15
end
section
/-! SCHEMA: its object at o, seven rows of ints and one of longs behind it. sc_P o A S I: row k holds A k (0 parents, 1 kinds, 2 depths, 3 repetitions, 4 definitions, 5 columnNumbers, 6 ends), the longs S; I 8 size, I 9 leaves, I 10 settled. (Written by gen40.py.) -/
def sc_fs (o : Nat) (I : Nat → Int32) : List Value := [.ref (o + 1), .ref (o + 2), .ref (o + 3), .ref (o + 4), .ref (o + 5), .ref (o + 6), .ref (o + 7), .ref (o + 8), .int (I 8), .int (I 9), .int (I 10)]
def sc_P (o : Nat) (A : Nat → Nat → Int32) (S : Nat → Int64) (I : Nat → Int32) (h : Nat → Option ri_E) : Prop := h o = some (.inr (3, sc_fs o I)) ∧ (∀ k, k < 7 → h (o + 1 + k) = some (.inl (.int, 48, .inl (A k)))) ∧ h (o + 8) = some (.inl (.long, 48, .inr (.inl S)))
/-- Schema's world since σ0: nothing else has changed, nothing was made -/
def sc_W (o : Nat) (A : Nat → Nat → Int32) (S : Nat → Int64) (I : Nat → Int32) (σ0 σ : ri_S) : Prop := sc_P o A S I σ.1 ∧ (∀ a, (a < o ∨ o + 9 ≤ a) → σ.1 a = σ0.1 a) ∧ σ.2 = σ0.2
theorem sc_P.a {o : Nat} {A : Nat → Nat → Int32} {S : Nat → Int64} {I : Nat → Int32} {h : Nat → Option ri_E} (hP : sc_P o A S I h) (k : Nat) (hk : k < 7) {q : Nat} (hq : q = o + 1 + k) : h q = some (.inl (.int, 48, .inl (A k))) := by
  rw [hq]; exact hP.2.1 k hk
theorem sc_W.put {o : Nat} {A : Nat → Nat → Int32} {S : Nat → Int64} {I : Nat → Int32} {σ0 σ : ri_S} (hW : sc_W o A S I σ0 σ) (j : Nat) (v : Int32) (hj : (sc_fs o I).set j (.int v) = sc_fs o (va_up I j v)) : sc_W o A S (va_up I j v) σ0 (ri_up σ.1 o (.inr (3, (sc_fs o I).set j (.int v))), σ.2) := by
  obtain ⟨⟨h1, h2, h5⟩, h3, h4⟩ := hW
  refine ⟨⟨?_, fun k hk => ?_, ?_⟩, fun a ha => ?_, h4⟩
  · exact ri_up_s.trans (by rw [hj])
  · exact (ri_up_n (by omega)).trans (h2 k hk)
  · exact (ri_up_n (by omega)).trans h5
  · exact (ri_up_n (by omega)).trans (h3 a ha)
theorem sc_W.set {o : Nat} {A : Nat → Nat → Int32} {S : Nat → Int64} {I : Nat → Int32} {σ0 σ : ri_S} (hW : sc_W o A S I σ0 σ) (k : Nat) (hk : k < 7) (f : Nat → Int32) {q : Nat} (hq : q = o + 1 + k) : sc_W o (va_up A k f) S I σ0 (ri_up σ.1 q (.inl (.int, 48, .inl f)), σ.2) := by
  obtain ⟨⟨h1, h2, h5⟩, h3, h4⟩ := hW
  subst hq
  refine ⟨⟨(ri_up_n (by omega)).trans h1, fun j hj => ?_, (ri_up_n (by omega)).trans h5⟩, fun a ha => (ri_up_n (by omega)).trans (h3 a ha), h4⟩
  show ri_up σ.1 _ _ (o + 1 + j) = _
  unfold va_up
  by_cases e : j = k
  · subst e
    rw [ri_up_s, if_pos rfl]
  · rw [ri_up_n (by omega), if_neg e]
    exact h2 j hj
theorem sc_W.setL {o : Nat} {A : Nat → Nat → Int32} {S : Nat → Int64} {I : Nat → Int32} {σ0 σ : ri_S} (hW : sc_W o A S I σ0 σ) (f : Nat → Int64) : sc_W o A f I σ0 (ri_up σ.1 (o + 8) (.inl (.long, 48, .inr (.inl f))), σ.2) := by
  obtain ⟨⟨h1, h2, h5⟩, h3, h4⟩ := hW
  exact ⟨⟨(ri_up_n (by omega)).trans h1, fun j hj => (ri_up_n (by omega)).trans (h2 j hj), ri_up_s⟩, fun a ha => (ri_up_n (by omega)).trans (h3 a ha), h4⟩
section SC0
variable {d o : Nat} {A : Nat → Nat → Int32} {S : Nat → Int64} {I : Nat → Int32} {σ0 σ : ri_S} {Q : Option Value → ri_S → Prop} {M : ri_M} {F : ri_F} {pc np tg : Nat} {kv : Int32} {L : List (Option Value)} {r : List Value}
theorem sc_ald (hP : sc_P o A S I σ.1) (k : Nat) {i a : Nat} {j : Int32} (hgo : ri_go 99 M F = (pc, L, .int j :: .ref a :: r)) (hf : ri_find pc M.2.2.2.2.2 = some (.iaload, np, tg, kv)) (ha : a = o + 1 + k) (hj : j = nI i) (hi : i < 48) (hk : k < 7) (kk : ev_W d M (np, L, .int (A k i) :: r) σ Q) : ev_W d M F σ Q := by
  subst hj
  refine g_iald hgo hf (hP.a k hk ha) rfl (nI_in hi (by decide)) ?_
  rw [nI_clamp (by omega)]
  exact kk
theorem sc_lld (hP : sc_P o A S I σ.1) {i : Nat} {j : Int32} (hgo : ri_go 99 M F = (pc, L, .int j :: .ref (o + 8) :: r)) (hf : ri_find pc M.2.2.2.2.2 = some (.laload, np, tg, kv)) (hj : j = nI i) (hi : i < 48) (kk : ev_W d M (np, L, .long (S i) :: r) σ Q) : ev_W d M F σ Q := by
  subst hj
  refine g_lald hgo hf hP.2.2 (nI_in hi (by decide)) ?_
  rw [nI_clamp (by omega)]
  exact kk
theorem sc_ast (hW : sc_W o A S I σ0 σ) (k : Nat) {i a : Nat} {j x : Int32} (hgo : ri_go 99 M F = (pc, L, .int x :: .int j :: .ref a :: r)) (hf : ri_find pc M.2.2.2.2.2 = some (.iastore, np, tg, kv)) (ha : a = o + 1 + k) (hj : j = nI i) (hi : i < 48) (hk : k < 7) (kk : ∀ σ' : ri_S, sc_W o (va_up A k (upd (A k) i x)) S I σ0 σ' → ev_W d M (np, L, r) σ' Q) : ev_W d M F σ Q := by
  subst hj
  refine g_iast hgo hf (hW.1.a k hk ha) (nI_in hi (by decide)) ?_
  rw [nI_clamp (by omega)]
  exact kk _ (hW.set k hk _ ha)
theorem sc_lst (hW : sc_W o A S I σ0 σ) {i : Nat} {j : Int32} {x : Int64} (hgo : ri_go 99 M F = (pc, L, .long x :: .int j :: .ref (o + 8) :: r)) (hf : ri_find pc M.2.2.2.2.2 = some (.lastore, np, tg, kv)) (hj : j = nI i) (hi : i < 48) (kk : ∀ σ' : ri_S, sc_W o A (vp_updL S i x) I σ0 σ' → ev_W d M (np, L, r) σ' Q) : ev_W d M F σ Q := by
  subst hj
  refine g_last hgo hf hW.1.2.2 (nI_in hi (by decide)) ?_
  rw [nI_clamp (by omega)]
  exact kk _ (hW.setL _)
theorem sc_num (hW : sc_W o A S I σ0 σ) {k j : Nat} {v : Int32} {ty : FieldType} (hgo : ri_go 99 M F = (pc, L, .int v :: .ref o :: r)) (hf : ri_find pc M.2.2.2.2.2 = some (.putfield k, np, tg, kv)) (ht : rt_f M.1 k = some (3, j, ty, 0)) (hn : narrow ty (.int v) = .int v) (hfi : fits ty (.int v) = true) (hj : Nat.blt j (sc_fs o I).length = true) (hs : (sc_fs o I).set j (.int v) = sc_fs o (va_up I j v)) (kk : ∀ σ' : ri_S, sc_W o A S (va_up I j v) σ0 σ' → ev_W d M (np, L, r) σ' Q) : ev_W d M F σ Q := by
  refine g_put hgo hf ht hW.1.1 hn hfi hj ?_
  exact kk _ (hW.put j v hs)
end SC0
section SC1
variable {d o n : Nat} {A : Nat → Nat → Int32} {S : Nat → Int64} {I : Nat → Int32} {σ0 σ : ri_S} {Q : Option Value → ri_S → Prop}
set_option maxRecDepth 100000 in
/-- has(field) -/
theorem sc_has {f : Int32} (hP : sc_P o A S I σ.1) (hI : I 8 = nI n) (hn : n ≤ 48) (k1 : ∀ w, w < n → f = nI w → Q (some (.int 1)) σ) (k0 : (∀ w, w < n → ¬ f = nI w) → Q (some (.int 0)) σ) : ev_W d mSc_has (0, [some (.ref o), some (.int f)], []) σ Q := by
  refine g_br rfl rfl rfl rfl rfl rfl (fun h => ?_) (fun h => ?_)
  · refine g_rt rfl rfl rfl (k0 (fun w hw e => ?_))
    rw [e] at h
    exact nI_pos (by omega) h
  · refine g_get rfl rfl rfl hP.1 rfl ?_
    obtain ⟨w, hw, rfl⟩ := nI_of h
    refine g_br rfl rfl rfl rfl rfl rfl (fun h2 => ?_) (fun h2 => ?_)
    · refine g_rt rfl rfl rfl (k0 (fun w' hw' e => ?_))
      rw [hI] at h2
      have := (nI_leI (by omega) hw).mp h2
      have := (nI_eq hw (by omega)).mp e
      omega
    · refine g_rt rfl rfl rfl (k1 w ?_ rfl)
      rcases Nat.lt_or_ge w n with z | z
      · exact z
      · exact absurd (by rw [hI]; exact nI_le z hw) h2
set_option maxRecDepth 100000 in
/-- parentOf(field) -/
theorem sc_parentOf {f : Int32} (hP : sc_P o A S I σ.1) (hI : I 8 = nI n) (hn : n ≤ 48) (k1 : ∀ w, w < n → f = nI w → Q (some (.int (A 0 w))) σ) (k0 : (∀ w, w < n → ¬ f = nI w) → Q (some (.int (-1))) σ) : ev_W (d + 1) mSc_parentOf (0, [some (.ref o), some (.int f)], []) σ Q := by
  refine g_clV rfl rfl rfl rfl hP.1 rfl rfl rfl ?_
  refine sc_has hP hI hn (fun w hw e => ?_) (fun h0 => ?_)
  · refine g_br rfl rfl rfl rfl rfl rfl (fun h => absurd h (by decide)) (fun h => ?_)
    refine g_get rfl rfl rfl hP.1 rfl ?_
    refine sc_ald hP 0 rfl rfl rfl e (by omega) (by decide) ?_
    exact g_rt rfl rfl rfl (k1 w hw e)
  · refine g_br rfl rfl rfl rfl rfl rfl (fun h => ?_) (fun h => absurd rfl h)
    exact g_rt rfl rfl rfl (k0 h0)
set_option maxRecDepth 100000 in
/-- kindOf(field) -/
theorem sc_kindOf {f : Int32} (hP : sc_P o A S I σ.1) (hI : I 8 = nI n) (hn : n ≤ 48) (k1 : ∀ w, w < n → f = nI w → Q (some (.int (A 1 w))) σ) (k0 : (∀ w, w < n → ¬ f = nI w) → Q (some (.int (-1))) σ) : ev_W (d + 1) mSc_kindOf (0, [some (.ref o), some (.int f)], []) σ Q := by
  refine g_clV rfl rfl rfl rfl hP.1 rfl rfl rfl ?_
  refine sc_has hP hI hn (fun w hw e => ?_) (fun h0 => ?_)
  · refine g_br rfl rfl rfl rfl rfl rfl (fun h => absurd h (by decide)) (fun h => ?_)
    refine g_get rfl rfl rfl hP.1 rfl ?_
    refine sc_ald hP 1 rfl rfl rfl e (by omega) (by decide) ?_
    exact g_rt rfl rfl rfl (k1 w hw e)
  · refine g_br rfl rfl rfl rfl rfl rfl (fun h => ?_) (fun h => absurd rfl h)
    exact g_rt rfl rfl rfl (k0 h0)
set_option maxRecDepth 100000 in
/-- depthOf(field) -/
theorem sc_depthOf {f : Int32} (hP : sc_P o A S I σ.1) (hI : I 8 = nI n) (hn : n ≤ 48) (k1 : ∀ w, w < n → f = nI w → Q (some (.int (A 2 w))) σ) (k0 : (∀ w, w < n → ¬ f = nI w) → Q (some (.int (0))) σ) : ev_W (d + 1) mSc_depthOf (0, [some (.ref o), some (.int f)], []) σ Q := by
  refine g_clV rfl rfl rfl rfl hP.1 rfl rfl rfl ?_
  refine sc_has hP hI hn (fun w hw e => ?_) (fun h0 => ?_)
  · refine g_br rfl rfl rfl rfl rfl rfl (fun h => absurd h (by decide)) (fun h => ?_)
    refine g_get rfl rfl rfl hP.1 rfl ?_
    refine sc_ald hP 2 rfl rfl rfl e (by omega) (by decide) ?_
    exact g_rt rfl rfl rfl (k1 w hw e)
  · refine g_br rfl rfl rfl rfl rfl rfl (fun h => ?_) (fun h => absurd rfl h)
    exact g_rt rfl rfl rfl (k0 h0)
set_option maxRecDepth 100000 in
/-- repetitionOf(field) -/
theorem sc_repetitionOf {f : Int32} (hP : sc_P o A S I σ.1) (hI : I 8 = nI n) (hn : n ≤ 48) (k1 : ∀ w, w < n → f = nI w → Q (some (.int (A 3 w))) σ) (k0 : (∀ w, w < n → ¬ f = nI w) → Q (some (.int (0))) σ) : ev_W (d + 1) mSc_repetitionOf (0, [some (.ref o), some (.int f)], []) σ Q := by
  refine g_clV rfl rfl rfl rfl hP.1 rfl rfl rfl ?_
  refine sc_has hP hI hn (fun w hw e => ?_) (fun h0 => ?_)
  · refine g_br rfl rfl rfl rfl rfl rfl (fun h => absurd h (by decide)) (fun h => ?_)
    refine g_get rfl rfl rfl hP.1 rfl ?_
    refine sc_ald hP 3 rfl rfl rfl e (by omega) (by decide) ?_
    exact g_rt rfl rfl rfl (k1 w hw e)
  · refine g_br rfl rfl rfl rfl rfl rfl (fun h => ?_) (fun h => absurd rfl h)
    exact g_rt rfl rfl rfl (k0 h0)
set_option maxRecDepth 100000 in
/-- definitionOf(field) -/
theorem sc_definitionOf {f : Int32} (hP : sc_P o A S I σ.1) (hI : I 8 = nI n) (hn : n ≤ 48) (k1 : ∀ w, w < n → f = nI w → Q (some (.int (A 4 w))) σ) (k0 : (∀ w, w < n → ¬ f = nI w) → Q (some (.int (0))) σ) : ev_W (d + 1) mSc_definitionOf (0, [some (.ref o), some (.int f)], []) σ Q := by
  refine g_clV rfl rfl rfl rfl hP.1 rfl rfl rfl ?_
  refine sc_has hP hI hn (fun w hw e => ?_) (fun h0 => ?_)
  · refine g_br rfl rfl rfl rfl rfl rfl (fun h => absurd h (by decide)) (fun h => ?_)
    refine g_get rfl rfl rfl hP.1 rfl ?_
    refine sc_ald hP 4 rfl rfl rfl e (by omega) (by decide) ?_
    exact g_rt rfl rfl rfl (k1 w hw e)
  · refine g_br rfl rfl rfl rfl rfl rfl (fun h => ?_) (fun h => absurd rfl h)
    exact g_rt rfl rfl rfl (k0 h0)
set_option maxRecDepth 100000 in
/-- columnOf(field) -/
theorem sc_columnOf {f : Int32} (hP : sc_P o A S I σ.1) (hI : I 8 = nI n) (hn : n ≤ 48) (k1 : ∀ w, w < n → f = nI w → Q (some (.int (A 5 w))) σ) (k0 : (∀ w, w < n → ¬ f = nI w) → Q (some (.int (-1))) σ) : ev_W (d + 1) mSc_columnOf (0, [some (.ref o), some (.int f)], []) σ Q := by
  refine g_clV rfl rfl rfl rfl hP.1 rfl rfl rfl ?_
  refine sc_has hP hI hn (fun w hw e => ?_) (fun h0 => ?_)
  · refine g_br rfl rfl rfl rfl rfl rfl (fun h => absurd h (by decide)) (fun h => ?_)
    refine g_get rfl rfl rfl hP.1 rfl ?_
    refine sc_ald hP 5 rfl rfl rfl e (by omega) (by decide) ?_
    exact g_rt rfl rfl rfl (k1 w hw e)
  · refine g_br rfl rfl rfl rfl rfl rfl (fun h => ?_) (fun h => absurd rfl h)
    exact g_rt rfl rfl rfl (k0 h0)
set_option maxRecDepth 100000 in
/-- endOf(field) -/
theorem sc_endOf {f : Int32} (hP : sc_P o A S I σ.1) (hI : I 8 = nI n) (hn : n ≤ 48) (k1 : ∀ w, w < n → f = nI w → Q (some (.int (A 6 w))) σ) (k0 : (∀ w, w < n → ¬ f = nI w) → Q (some (.int (nI n))) σ) : ev_W (d + 1) mSc_endOf (0, [some (.ref o), some (.int f)], []) σ Q := by
  refine g_clV rfl rfl rfl rfl hP.1 rfl rfl rfl ?_
  refine sc_has hP hI hn (fun w hw e => ?_) (fun h0 => ?_)
  · refine g_br rfl rfl rfl rfl rfl rfl (fun h => absurd h (by decide)) (fun h => ?_)
    refine g_get rfl rfl rfl hP.1 rfl ?_
    refine sc_ald hP 6 rfl rfl rfl e (by omega) (by decide) ?_
    exact g_rt rfl rfl rfl (k1 w hw e)
  · refine g_br rfl rfl rfl rfl rfl rfl (fun h => ?_) (fun h => absurd rfl h)
    refine g_get rfl rfl rfl hP.1 rfl ?_
    refine g_rt rfl rfl rfl ?_
    rw [hI]
    exact k0 h0
set_option maxRecDepth 100000 in
/-- columnsIn(field) -/
theorem sc_columnsIn {f : Int32} (hP : sc_P o A S I σ.1) (hI : I 8 = nI n) (hn : n ≤ 48) (k1 : ∀ w, w < n → f = nI w → Q (some (.long (S w))) σ) (k0 : (∀ w, w < n → ¬ f = nI w) → Q (some (.long 0)) σ) : ev_W (d + 1) mSc_columnsIn (0, [some (.ref o), some (.int f)], []) σ Q := by
  refine g_clV rfl rfl rfl rfl hP.1 rfl rfl rfl ?_
  refine sc_has hP hI hn (fun w hw e => ?_) (fun h0 => ?_)
  · refine g_br rfl rfl rfl rfl rfl rfl (fun h => absurd h (by decide)) (fun h => ?_)
    refine g_get rfl rfl rfl hP.1 rfl ?_
    refine sc_lld hP rfl rfl e (by omega) ?_
    exact g_rt rfl rfl rfl (k1 w hw e)
  · refine g_br rfl rfl rfl rfl rfl rfl (fun h => ?_) (fun h => absurd rfl h)
    exact g_rt rfl rfl rfl (k0 h0)
set_option maxRecDepth 100000 in
/-- isGroup(field) -/
theorem sc_isGroup {f : Int32} (hP : sc_P o A S I σ.1) (hI : I 8 = nI n) (hn : n ≤ 48) (k1 : ∀ w, w < n → f = nI w → A 5 w = -1 → Q (some (.int 1)) σ) (k0 : (∀ w, w < n → f = nI w → ¬ A 5 w = -1) → Q (some (.int 0)) σ) : ev_W (d + 1) mSc_isGroup (0, [some (.ref o), some (.int f)], []) σ Q := by
  refine g_clV rfl rfl rfl rfl hP.1 rfl rfl rfl ?_
  refine sc_has hP hI hn (fun w hw e => ?_) (fun h0 => ?_)
  · refine g_br rfl rfl rfl rfl rfl rfl (fun h => absurd h (by decide)) (fun h => ?_)
    refine g_get rfl rfl rfl hP.1 rfl ?_
    refine sc_ald hP 5 rfl rfl rfl e (by omega) (by decide) ?_
    refine g_br rfl rfl rfl rfl rfl rfl (fun h2 => ?_) (fun h2 => ?_)
    · exact g_rt rfl rfl rfl (k1 w hw e h2)
    · refine g_rt rfl rfl rfl (k0 (fun w' hw' e' => ?_))
      rw [show w' = w from (nI_eq (by omega) (by omega)).mp (e'.symm.trans e)]
      exact h2
  · refine g_br rfl rfl rfl rfl rfl rfl (fun h => ?_) (fun h => absurd rfl h)
    exact g_rt rfl rfl rfl (k0 (fun w hw e => absurd e (h0 w hw)))
set_option maxRecDepth 100000 in
/-- isLeaf(field) -/
theorem sc_isLeaf {f : Int32} (hP : sc_P o A S I σ.1) (hI : I 8 = nI n) (hn : n ≤ 48) (k1 : ∀ w, w < n → f = nI w → ¬ A 5 w = -1 → Q (some (.int 1)) σ) (k0 : (∀ w, w < n → f = nI w → A 5 w = -1) → Q (some (.int 0)) σ) : ev_W (d + 1) mSc_isLeaf (0, [some (.ref o), some (.int f)], []) σ Q := by
  refine g_clV rfl rfl rfl rfl hP.1 rfl rfl rfl ?_
  refine sc_has hP hI hn (fun w hw e => ?_) (fun h0 => ?_)
  · refine g_br rfl rfl rfl rfl rfl rfl (fun h => absurd h (by decide)) (fun h => ?_)
    refine g_get rfl rfl rfl hP.1 rfl ?_
    refine sc_ald hP 5 rfl rfl rfl e (by omega) (by decide) ?_
    refine g_br rfl rfl rfl rfl rfl rfl (fun h2 => ?_) (fun h2 => ?_)
    · refine g_rt rfl rfl rfl (k0 (fun w' hw' e' => ?_))
      rw [show w' = w from (nI_eq (by omega) (by omega)).mp (e'.symm.trans e)]
      exact h2
    · exact g_rt rfl rfl rfl (k1 w hw e h2)
  · refine g_br rfl rfl rfl rfl rfl rfl (fun h => ?_) (fun h => absurd rfl h)
    exact g_rt rfl rfl rfl (k0 (fun w hw e => absurd e (h0 w hw)))
/-- a field may lie in p -/
def sc_may (A : Nat → Nat → Int32) (n : Nat) (p : Int32) : Prop := p = -1 ∨ ∃ w, w < n ∧ p = nI w ∧ A 5 w = -1 ∧ A 6 w = nI n ∧ A 2 w < 16
set_option maxRecDepth 100000 in
/-- mayHold(parent) -/
theorem sc_mayHold {p : Int32} (hP : sc_P o A S I σ.1) (hI : I 8 = nI n) (hn : n ≤ 48) (k1 : sc_may A n p → Q (some (.int 1)) σ) (k0 : ¬ sc_may A n p → Q (some (.int 0)) σ) : ev_W (d + 2) mSc_mayHold (0, [some (.ref o), some (.int p)], []) σ Q := by
  refine g_br rfl rfl rfl rfl rfl rfl (fun h => ?_) (fun h => ?_)
  · exact g_rt rfl rfl rfl (k1 (Or.inl h))
  refine g_clV rfl rfl rfl rfl hP.1 rfl rfl rfl ?_
  refine sc_isGroup hP hI hn (fun w hw e h1 => ?_) (fun h0 => ?_)
  rotate_left
  · refine g_br rfl rfl rfl rfl rfl rfl (fun h' => ?_) (fun h' => absurd rfl h')
    refine g_rt rfl rfl rfl (k0 (fun z => ?_))
    obtain ⟨w, hw, e, z1, -⟩ := z.resolve_left h
    exact h0 w hw e z1
  have inj : ∀ w', w' < n → p = nI w' → w' = w := fun w' hw' e' => (nI_eq (by omega) (by omega)).mp (e'.symm.trans e)
  refine g_br rfl rfl rfl rfl rfl rfl (fun h => absurd h (by decide)) (fun h2 => ?_)
  refine g_get rfl rfl rfl hP.1 rfl ?_
  refine sc_ald hP 6 rfl rfl rfl e (by omega) (by decide) ?_
  refine g_get rfl rfl rfl hP.1 rfl ?_
  refine g_br rfl rfl rfl rfl rfl rfl (fun h3 => ?_) (fun h3 => ?_)
  rotate_left
  · refine g_rt rfl rfl rfl (k0 (fun z => ?_))
    obtain ⟨w', hw', e', -, z1, -⟩ := z.resolve_left h
    rw [inj w' hw' e'] at z1
    exact h3 (z1.trans hI.symm)
  refine g_get rfl rfl rfl hP.1 rfl ?_
  refine sc_ald hP 2 rfl rfl rfl e (by omega) (by decide) ?_
  refine g_br rfl rfl rfl rfl rfl rfl (fun h4 => ?_) (fun h4 => ?_)
  · refine g_rt rfl rfl rfl (k0 (fun z => ?_))
    obtain ⟨w', hw', e', -, -, z1⟩ := z.resolve_left h
    rw [inj w' hw' e'] at z1
    exact absurd z1 (Int32.not_lt.mpr h4)
  · exact g_rt rfl rfl rfl (k1 (Or.inr ⟨w, hw, e, h1, h3.trans hI, Int32.not_le.mp h4⟩))
/-- what stretch makes of the ends and the sets, along the chain of parents -/
def sc_st (par : Nat → Int32) (v : Int32) (s : Int64) : Nat → Int32 → (Nat → Int32) × (Nat → Int64) → (Nat → Int32) × (Nat → Int64)
  | 0, _, x => x
  | m + 1, f, x => if f = -1 then x else sc_st par v s m (par f.toNatClampNeg) (upd x.1 f.toNatClampNeg v, vp_updL x.2 f.toNatClampNeg (x.2 f.toNatClampNeg ||| s))
set_option maxRecDepth 100000 in
theorem sc_stretch_loop {fd : Int32} {s : Int64} (hn : n ≤ 48) (hup : mo_up (A 0) n) (hI : I 8 = nI n) : ∀ (m i : Nat) (f : Int32) (x : (Nat → Int32) × (Nat → Int64)) (σ : ri_S), i + m = 16 → (f = -1 ∨ ∃ p, p < n ∧ f = nI p) → sc_W o (va_up A 6 x.1) x.2 I σ0 σ →
    (∀ σ' : ri_S, sc_W o (va_up A 6 (sc_st (A 0) (fd + 1) s m f x).1) (sc_st (A 0) (fd + 1) s m f x).2 I σ0 σ' → Q none σ') → ev_W (d + 1) mSc_stretch (6, [some (.ref o), some (.int fd), some (.long s), none, some (.int f), some (.int (nI i))], []) σ Q := by
  intro m
  induction m with
  | zero =>
    intro i f x σ hi hf hW kk
    obtain rfl : i = 16 := by omega
    refine g_br rfl rfl rfl rfl rfl rfl (fun h => ?_) (fun h => absurd (by decide) h)
    exact g_rt rfl rfl rfl (kk σ hW)
  | succ m ih =>
    intro i f x σ hi hf hW kk
    have eS : sc_st (A 0) (fd + 1) s (m + 1) f x = if f = -1 then x else sc_st (A 0) (fd + 1) s m (A 0 f.toNatClampNeg) (upd x.1 f.toNatClampNeg (fd + 1), vp_updL x.2 f.toNatClampNeg (x.2 f.toNatClampNeg ||| s)) := rfl
    rw [eS] at kk
    refine g_br rfl rfl rfl rfl rfl rfl (fun h => absurd h (show ¬ nI 16 ≤ nI i from nI_ge (by omega) (by decide))) (fun h => ?_)
    refine g_clV rfl rfl rfl rfl hW.1.1 rfl rfl rfl ?_
    refine sc_has hW.1 hI hn (fun w hw e => ?_) (fun h0 => ?_)
    · subst e
      refine g_br rfl rfl rfl rfl rfl rfl (fun h => absurd h (by decide)) (fun h1 => ?_)
      rw [if_neg (nI_nm1 (by omega)), nI_clamp (by omega)] at kk
      refine g_get rfl rfl rfl hW.1.1 rfl ?_
      refine sc_ast hW 6 rfl rfl rfl rfl (show w < 48 by omega) (by decide) (fun σ1 hW1 => ?_)
      rw [bx_uu] at hW1
      change sc_W o (va_up A 6 (upd x.1 w (fd + 1))) x.2 I σ0 σ1 at hW1
      refine g_get rfl rfl rfl hW1.1.1 rfl ?_
      refine sc_lld hW1.1 rfl rfl rfl (show w < 48 by omega) ?_
      refine sc_lst hW1 rfl rfl rfl (show w < 48 by omega) (fun σ2 hW2 => ?_)
      refine g_get rfl rfl rfl hW2.1.1 rfl ?_
      refine sc_ald hW2.1 0 rfl rfl rfl rfl (show w < 48 by omega) (by decide) ?_
      refine ev_go 3 rfl ?_
      show ev_W (d + 1) mSc_stretch (6, [some (.ref o), some (.int fd), some (.long s), none, some (.int (A 0 w)), some (.int (nI i + 1))], []) σ2 Q
      rw [nI_1]
      refine ih (i + 1) (A 0 w) (upd x.1 w (fd + 1), vp_updL x.2 w (x.2 w ||| s)) σ2 (by omega) ?_ hW2 kk
      rcases hup w hw with q | ⟨z, hz, q⟩
      · exact Or.inl q
      · exact Or.inr ⟨z, by omega, q⟩
    · refine g_br rfl rfl rfl rfl rfl rfl (fun h1 => ?_) (fun h => absurd rfl h)
      have e : f = -1 := by
        rcases hf with z | ⟨p, hp, z⟩
        · exact z
        · exact absurd z (h0 p hp)
      rw [if_pos e] at kk
      exact g_rt rfl rfl rfl (kk σ hW)
set_option maxRecDepth 100000 in
/-- stretch(field, set) -/
theorem sc_stretch {fd : Int32} {s : Int64} {w : Nat} (hn : n ≤ 48) (hup : mo_up (A 0) n) (hI : I 8 = nI n) (hf : fd = nI w) (hw : w < n) (hW : sc_W o A S I σ0 σ) (kk : ∀ σ' : ri_S, sc_W o (va_up A 6 (sc_st (A 0) (fd + 1) s 16 fd (A 6, S)).1) (sc_st (A 0) (fd + 1) s 16 fd (A 6, S)).2 I σ0 σ' → Q none σ') : ev_W (d + 1) mSc_stretch (0, [some (.ref o), some (.int fd), some (.long s), none, none, none], []) σ Q := by
  refine ev_go 4 rfl ?_
  have hA : va_up A 6 (A 6) = A := by
    funext j
    unfold va_up
    by_cases z : j = 6
    · rw [if_pos z, z]
    · rw [if_neg z]
  exact sc_stretch_loop hn hup hI 16 0 fd (A 6, S) σ (by omega) (Or.inr ⟨w, hw, hf⟩) (by rw [hA]; exact hW) kk
/-- every group has a field -/
def sc_full (A : Nat → Nat → Int32) (n : Nat) : Prop := ∀ f, f < n → A 5 f = -1 → ¬ A 6 f = nI (f + 1)
set_option maxRecDepth 100000 in
theorem sc_settle_loop (hW : sc_W o A S I σ0 σ) (hn : n ≤ 48) (hI : I 8 = nI n) (kno : ¬ sc_full A n → Q (some (.int 0)) σ) (kyes : ∀ σ' : ri_S, sc_full A n → sc_W o A S (va_up I 10 1) σ0 σ' → Q (some (.int 1)) σ') : ∀ (t i : Nat), i + t = n → (∀ f, f < i → A 5 f = -1 → ¬ A 6 f = nI (f + 1)) → ev_W (d + 2) mSc_settle (18, [some (.ref o), some (.int (nI i))], []) σ Q := by
  have hP := hW.1
  intro t
  induction t with
  | zero =>
    intro i hi hall
    obtain rfl : i = n := by omega
    refine g_get rfl rfl rfl hP.1 rfl ?_
    refine g_br rfl rfl rfl rfl rfl rfl (fun h => ?_) (fun h => absurd (by rw [hI]; exact nI_le (Nat.le_refl _) (by omega)) h)
    refine sc_num hW rfl rfl rfl rfl rfl rfl rfl (fun σ1 hW1 => ?_)
    exact g_rt rfl rfl rfl (kyes σ1 hall hW1)
  | succ t ih =>
    intro i hi hall
    refine g_get rfl rfl rfl hP.1 rfl ?_
    refine g_br rfl rfl rfl rfl rfl rfl (fun h => absurd h (by rw [hI]; exact nI_ge (by omega) (by omega))) (fun h => ?_)
    have nxt : (A 5 i = -1 → ¬ A 6 i = nI (i + 1)) → ev_W (d + 2) mSc_settle (48, [some (.ref o), some (.int (nI i))], []) σ Q := by
      intro q
      refine ev_go 2 rfl ?_
      show ev_W (d + 2) mSc_settle (18, [some (.ref o), some (.int (nI i + 1))], []) σ Q
      rw [nI_1]
      refine ih (i + 1) (by omega) (fun f hf => ?_)
      rcases Nat.lt_succ_iff_lt_or_eq.mp hf with e | e
      · exact hall f e
      · subst e; exact q
    refine g_clV rfl rfl rfl rfl hP.1 rfl rfl rfl ?_
    refine sc_isGroup hP hI hn (fun w hw e h1 => ?_) (fun h0 => ?_)
    · obtain rfl : i = w := (nI_eq (by omega) (by omega)).mp e
      refine g_br rfl rfl rfl rfl rfl rfl (fun h => absurd h (by decide)) (fun h2 => ?_)
      refine g_get rfl rfl rfl hP.1 rfl ?_
      refine sc_ald hP 6 rfl rfl rfl rfl (show i < 48 by omega) (by decide) ?_
      refine g_br rfl rfl rfl rfl rfl rfl (fun h3 => ?_) (fun h3 => ?_)
      · exact g_rt rfl rfl rfl (kno (fun z => z i hw h1 (by rw [← nI_1]; exact h3)))
      · exact nxt (fun _ z => h3 (by rw [nI_1]; exact z))
    · refine g_br rfl rfl rfl rfl rfl rfl (fun h2 => ?_) (fun h => absurd rfl h)
      exact nxt (fun z => absurd z (h0 i (by omega) rfl))
set_option maxRecDepth 100000 in
/-- settle() -/
theorem sc_settle (hW : sc_W o A S I σ0 σ) (hn : n ≤ 48) (hI : I 8 = nI n) (kno : ¬ (I 10 = 0 ∧ 0 < n ∧ sc_full A n) → Q (some (.int 0)) σ) (kyes : ∀ σ' : ri_S, (I 10 = 0 ∧ 0 < n ∧ sc_full A n) → sc_W o A S (va_up I 10 1) σ0 σ' → Q (some (.int 1)) σ') : ev_W (d + 2) mSc_settle (0, [some (.ref o), none], []) σ Q := by
  have hP := hW.1
  refine g_get rfl rfl rfl hP.1 rfl ?_
  refine g_br rfl rfl rfl rfl rfl rfl (fun h1 => ?_) (fun h1 => ?_)
  rotate_left
  · exact g_rt rfl rfl rfl (kno (fun z => h1 z.1))
  refine g_get rfl rfl rfl hP.1 rfl ?_
  refine g_br rfl rfl rfl rfl rfl rfl (fun h2 => ?_) (fun h2 => ?_)
  · refine g_rt rfl rfl rfl (kno (fun z => ?_))
    rw [hI] at h2
    have := (mo_e0 (by omega)).mp h2
    omega
  have h3 : 0 < n := by
    rcases Nat.eq_zero_or_pos n with z | z
    · exact absurd (by rw [hI, z]; rfl) h2
    · exact z
  refine ev_go 2 rfl ?_
  exact sc_settle_loop hW hn hI (fun z => kno (fun q => z q.2.2)) (fun σ' q h' => kyes σ' ⟨h1, h3, q⟩ h') n 0 (by omega) (fun f hf => absurd hf (Nat.not_lt_zero _))
/-- a field of group g from .. to - 1 is required -/
def sc_req (A : Nat → Nat → Int32) (n : Nat) (g : Int32) (fr : Nat) (to : Int32) : Prop := ∃ w, w < n ∧ fr ≤ w ∧ nI w < to ∧ A 0 w = g ∧ A 1 w = 0
set_option maxRecDepth 100000 in
theorem sc_requires_loop {g fr0 to : Int32} {fr : Nat} (hP : sc_P o A S I σ.1) (hn : n ≤ 48) (hI : I 8 = nI n) (k1 : sc_req A n g fr to → Q (some (.int 1)) σ) (k0 : ¬ sc_req A n g fr to → Q (some (.int 0)) σ) : ∀ (t i : Nat), i < 2 ^ 31 → fr ≤ i → n ≤ i + t → (∀ w, w < i → w < n → fr ≤ w → nI w < to → ¬ (A 0 w = g ∧ A 1 w = 0)) → ev_W (d + 1) mSc_requires (7, [some (.ref o), some (.int g), some (.int fr0), some (.int to), some (.int (nI i))], []) σ Q := by
  intro t
  induction t with
  | zero =>
    intro i hi31 hfr hi hall
    have no : ¬ sc_req A n g fr to := fun ⟨w, hw, z1, z2, z3⟩ => hall w (by omega) hw z1 z2 z3
    refine g_br rfl rfl rfl rfl rfl rfl (fun h => ?_) (fun h => ?_)
    · exact g_rt rfl rfl rfl (k0 no)
    refine g_get rfl rfl rfl hP.1 rfl ?_
    refine g_br rfl rfl rfl rfl rfl rfl (fun h => ?_) (fun h => absurd (by rw [hI]; exact nI_le (by omega) hi31) h)
    exact g_rt rfl rfl rfl (k0 no)
  | succ t ih =>
    intro i hi31 hfr hi hall
    refine g_br rfl rfl rfl rfl rfl rfl (fun h => ?_) (fun h => ?_)
    · refine g_rt rfl rfl rfl (k0 (fun ⟨w, hw, z1, z2, z3⟩ => ?_))
      rcases Nat.lt_or_ge w i with z | z
      · exact hall w z hw z1 z2 z3
      · have h5 : nI i ≤ nI w := nI_le z (by omega)
        exact Int32.lt_irrefl (Int32.lt_of_le_of_lt (Int32.le_trans h h5) z2)
    refine g_get rfl rfl rfl hP.1 rfl ?_
    refine g_br rfl rfl rfl rfl rfl rfl (fun h2 => ?_) (fun h2 => ?_)
    · refine g_rt rfl rfl rfl (k0 (fun ⟨w, hw, z1, z2, z3⟩ => hall w ?_ hw z1 z2 z3))
      rw [hI] at h2
      have := (nI_leI (by omega) hi31).mp h2
      omega
    have hin : i < n := by
      rcases Nat.lt_or_ge i n with z | z
      · exact z
      · exact absurd (by rw [hI]; exact nI_le z hi31) h2
    have nxt : ¬ (A 0 i = g ∧ A 1 i = 0) → ev_W (d + 1) mSc_requires (45, [some (.ref o), some (.int g), some (.int fr0), some (.int to), some (.int (nI i))], []) σ Q := by
      intro q
      refine ev_go 2 rfl ?_
      show ev_W (d + 1) mSc_requires (7, [some (.ref o), some (.int g), some (.int fr0), some (.int to), some (.int (nI i + 1))], []) σ Q
      rw [nI_1]
      refine ih (i + 1) (by omega) (by omega) (by omega) (fun w hw => ?_)
      rcases Nat.lt_succ_iff_lt_or_eq.mp hw with e | e
      · exact hall w e
      · subst e; exact fun _ _ _ => q
    refine g_get rfl rfl rfl hP.1 rfl ?_
    refine sc_ald hP 0 rfl rfl rfl rfl (show i < 48 by omega) (by decide) ?_
    refine g_br rfl rfl rfl rfl rfl rfl (fun h3 => ?_) (fun h3 => ?_)
    rotate_left
    · exact nxt (fun z => h3 z.1)
    refine g_get rfl rfl rfl hP.1 rfl ?_
    refine sc_ald hP 1 rfl rfl rfl rfl (show i < 48 by omega) (by decide) ?_
    refine g_br rfl rfl rfl rfl rfl rfl (fun h4 => ?_) (fun h4 => ?_)
    · exact g_rt rfl rfl rfl (k1 ⟨i, hin, hfr, Int32.not_le.mp h, h3, h4⟩)
    · exact nxt (fun z => h4 z.2)
set_option maxRecDepth 100000 in
/-- requires(group, from, to) -/
theorem sc_requires {g fr to : Int32} {q : Nat} (hP : sc_P o A S I σ.1) (hn : n ≤ 48) (hI : I 8 = nI n) (hq : (if fr < 0 then 0 else fr) = nI q) (hq2 : q < 2 ^ 31) (k1 : sc_req A n g q to → Q (some (.int 1)) σ) (k0 : ¬ sc_req A n g q to → Q (some (.int 0)) σ) : ev_W (d + 1) mSc_requires (0, [some (.ref o), some (.int g), some (.int fr), some (.int to), none], []) σ Q := by
  refine g_max rfl rfl rfl rfl rfl ?_
  rw [hq]
  refine ev_go 1 rfl ?_
  exact sc_requires_loop hP hn hI k1 k0 n q hq2 (Nat.le_refl _) (by omega) (fun w hw _ h => absurd h (by omega))
end SC1
end
section
/-! ROLES. Every cell that is held has a number, its role: 0 the object Striping, 1 Draft, 2 openGroups, 3 newestFields, 4 fields, 5 values, 6 Events, 7 its row, 8 cursors, 9 Columns, 10 sizes, 11 rows, 12 + c the row of column c, 60 .. 68 Schema, 70 .. 83 the reference, 98 the script. gw_P a D σ: role i lies at a i and holds D i; no two lie at one place. -/
def gw_P (a : Nat → Nat) (D : Nat → Option ri_E) (σ : ri_S) : Prop := (∀ i j, D i ≠ none → D j ≠ none → a i = a j → i = j) ∧ ∀ i e, D i = some e → a i < σ.2.1 ∧ σ.1 (a i) = some e
/-- what a growing row took: T its length before, T' after -/
def gw_ro (T T' : Nat) (σ σ' : ri_S) : Prop := 24 * σ'.2.1 + T ≤ 24 * σ.2.1 + T' ∧ σ'.2.2 + 2 * T ≤ σ.2.2 + 2 * T'
/-- nothing but the roles lo .. hi - 1 has changed -/
def gw_F (lo hi : Nat) (a : Nat → Nat) (D : Nat → Option ri_E) (a' : Nat → Nat) (D' : Nat → Option ri_E) : Prop := ∀ i, (i < lo ∨ hi ≤ i) → D' i = D i ∧ a' i = a i
theorem va_up_s {α : Type} {f : Nat → α} {i : Nat} {x : α} : va_up f i x i = x := if_pos rfl
theorem va_up_n {α : Type} {f : Nat → α} {i j : Nat} {x : α} (h : j ≠ i) : va_up f i x j = f j := if_neg h
theorem va_up_id {α : Type} {f : Nat → α} {i : Nat} {x : α} (h : f i = x) : va_up f i x = f := by
  funext j
  by_cases z : j = i
  · rw [z, va_up_s, h]
  · rw [va_up_n z]
theorem gw_sn {e : ri_E} : (some e : Option ri_E) ≠ none := fun z => by cases z
section GW
variable {a a1 a2 : Nat → Nat} {D D1 D2 : Nat → Option ri_E} {σ σ1 σ2 : ri_S} {lo hi lo' hi' T T1 T2 : Nat}
theorem gw_P.at (h : gw_P a D σ) {i : Nat} {e : ri_E} (hd : D i = some e) : σ.1 (a i) = some e := (h.2 i e hd).2
theorem gw_P.lt (h : gw_P a D σ) {i : Nat} {e : ri_E} (hd : D i = some e) : a i < σ.2.1 := (h.2 i e hd).1
theorem gw_P.ne (h : gw_P a D σ) {i j : Nat} {e x : ri_E} (hi : D i = some e) (hj : D j = some x) (hij : i ≠ j) : a i ≠ a j := fun z => hij (h.1 i j (by rw [hi]; exact gw_sn) (by rw [hj]; exact gw_sn) z)
theorem gw_P.set (h : gw_P a D σ) {i : Nat} {e0 : ri_E} (hd : D i = some e0) (e : ri_E) : gw_P a (va_up D i (some e)) (ri_up σ.1 (a i) e, σ.2) := by
  have us : ∀ j, va_up D i (some e) j ≠ none → D j ≠ none := fun j hj => by
    by_cases q : j = i
    · rw [q, hd]; exact gw_sn
    · rw [va_up_n q] at hj; exact hj
  refine ⟨fun p q hp hq => h.1 p q (us p hp) (us q hq), fun j x hx => ?_⟩
  by_cases q : j = i
  · rw [q] at hx ⊢
    rw [va_up_s] at hx
    cases hx
    exact ⟨(h.2 i e0 hd).1, ri_up_s⟩
  · rw [va_up_n q] at hx
    exact ⟨(h.2 j x hx).1, (ri_up_n (h.ne hx hd q)).trans (h.2 j x hx).2⟩
theorem gw_P.new (h : gw_P a D σ) (i : Nat) (e : ri_E) (n s : Nat) (hn : σ.2.1 < n) : gw_P (va_up a i σ.2.1) (va_up D i (some e)) (ri_up σ.1 σ.2.1 e, n, s) := by
  have lt : ∀ j, j ≠ i → va_up D i (some e) j ≠ none → a j < σ.2.1 := fun j hj hx => by
    rw [va_up_n hj] at hx
    cases hc : D j with
    | none => exact absurd hc hx
    | some x => exact (h.2 j x hc).1
  refine ⟨fun p q hp hq hpq => ?_, fun j x hx => ?_⟩
  · by_cases z1 : p = i
    · by_cases z2 : q = i
      · rw [z1, z2]
      · rw [z1, va_up_s, va_up_n z2] at hpq
        have := lt q z2 hq
        omega
    · by_cases z2 : q = i
      · rw [z2, va_up_s, va_up_n z1] at hpq
        have := lt p z1 hp
        omega
      · rw [va_up_n z1] at hp
        rw [va_up_n z2] at hq
        rw [va_up_n z1, va_up_n z2] at hpq
        exact h.1 p q hp hq hpq
  · by_cases z : j = i
    · rw [z] at hx ⊢
      rw [va_up_s] at hx
      cases hx
      rw [va_up_s]
      exact ⟨hn, ri_up_s⟩
    · rw [va_up_n z] at hx
      rw [va_up_n z]
      have := h.2 j x hx
      exact ⟨Nat.lt_trans this.1 hn, (ri_up_n (Nat.ne_of_lt this.1)).trans this.2⟩
/-- the same roles in other cells that agree there -/
theorem gw_P.sub (h : gw_P a D σ) (h1 : ∀ i e, D1 i = some e → a i < σ1.2.1 ∧ σ1.1 (a i) = some e) (h2 : ∀ i, D1 i ≠ none → D i ≠ none) : gw_P a D1 σ1 := ⟨fun p q hp hq => h.1 p q (h2 p hp) (h2 q hq), h1⟩
theorem gw_F.rf : gw_F lo hi a D a D := fun _ _ => ⟨rfl, rfl⟩
theorem gw_F.tr (h1 : gw_F lo hi a D a1 D1) (h2 : gw_F lo hi a1 D1 a2 D2) : gw_F lo hi a D a2 D2 := fun i hi => ⟨(h2 i hi).1.trans (h1 i hi).1, (h2 i hi).2.trans (h1 i hi).2⟩
theorem gw_F.wk (h : gw_F lo hi a D a1 D1) (h1 : lo' ≤ lo) (h2 : hi ≤ hi') : gw_F lo' hi' a D a1 D1 := fun i hi => h i (by omega)
theorem gw_F.up (h : gw_F lo hi a D a1 D1) {i : Nat} {e : Option ri_E} (h1 : lo ≤ i) (h2 : i < hi) : gw_F lo hi a D a1 (va_up D1 i e) := fun j hj => ⟨(va_up_n (by omega)).trans (h j hj).1, (h j hj).2⟩
theorem gw_F.upA (h : gw_F lo hi a D a1 D1) {i q : Nat} (h1 : lo ≤ i) (h2 : i < hi) : gw_F lo hi a D (va_up a1 i q) D1 := fun j hj => ⟨(h j hj).1, (va_up_n (by omega)).trans (h j hj).2⟩
theorem gw_ro.rf (h : σ1.2 = σ.2) : gw_ro T T σ σ1 := by unfold gw_ro; rw [h]; omega
theorem gw_ro.tr (h1 : gw_ro T T1 σ σ1) (h2 : gw_ro T1 T2 σ1 σ2) : gw_ro T T2 σ σ2 := by unfold gw_ro at *; omega
theorem gw_ro.ad (h1 : gw_ro T T1 σ σ1) (k : Nat) : gw_ro (T + k) (T1 + k) σ σ1 := by unfold gw_ro at *; omega
end GW
section GWS
variable {a : Nat → Nat} {D : Nat → Option ri_E} {d : Nat} {M : ri_M} {F : ri_F} {pc np tg : Nat} {kv : Int32} {L : List (Option Value)} {st r : List Value} {σ : ri_S} {Q : Option Value → ri_S → Prop}
/-- steps on a role's cell -/
theorem gw_put (hG : gw_P a D σ) {i k cj j : Nat} {ty : FieldType} {fs : List Value} {v : Value} (hd : D i = some (.inr (cj, fs))) (hgo : ri_go 99 M F = (pc, L, v :: .ref (a i) :: r)) (hf : ri_find pc M.2.2.2.2.2 = some (.putfield k, np, tg, kv)) (ht : rt_f M.1 k = some (cj, j, ty, 0)) (hn : narrow ty v = v) (hfi : fits ty v = true) (hj : Nat.blt j fs.length = true) (kk : ∀ σ' : ri_S, gw_P a (va_up D i (some (.inr (cj, fs.set j v)))) σ' → σ'.2 = σ.2 → ev_W d M (np, L, r) σ' Q) : ev_W d M F σ Q := g_put hgo hf ht (hG.at hd) hn hfi hj (kk _ (hG.set hd _) rfl)
theorem gw_ald (hG : gw_P a D σ) {i n q : Nat} {j : Int32} {f : Nat → Int32} (hd : D i = some (.inl (.int, n, .inl f))) (hgo : ri_go 99 M F = (pc, L, .int j :: .ref (a i) :: r)) (hf : ri_find pc M.2.2.2.2.2 = some (.iaload, np, tg, kv)) (hj : j = nI q) (hq : q < n) (hn : n < 2 ^ 31) (kk : ev_W d M (np, L, .int (f q) :: r) σ Q) : ev_W d M F σ Q := by
  subst hj
  refine g_iald hgo hf (hG.at hd) rfl (nI_in hq hn) ?_
  rw [nI_clamp (by omega)]
  exact kk
theorem gw_ast (hG : gw_P a D σ) {i n q : Nat} {j x : Int32} {f : Nat → Int32} (hd : D i = some (.inl (.int, n, .inl f))) (hgo : ri_go 99 M F = (pc, L, .int x :: .int j :: .ref (a i) :: r)) (hf : ri_find pc M.2.2.2.2.2 = some (.iastore, np, tg, kv)) (hj : j = nI q) (hq : q < n) (hn : n < 2 ^ 31) (kk : ∀ σ' : ri_S, gw_P a (va_up D i (some (.inl (.int, n, .inl (upd f q x))))) σ' → σ'.2 = σ.2 → ev_W d M (np, L, r) σ' Q) : ev_W d M F σ Q := by
  subst hj
  refine g_iast hgo hf (hG.at hd) (nI_in hq hn) ?_
  rw [nI_clamp (by omega)]
  exact kk _ (hG.set hd _) rfl
/-- a static call, and one of a nest mate's -/
theorem ev_clS {M' : ri_M} {k n : Nat} (hf : ri_find pc M.2.2.2.2.2 = some (.invokestatic k, np, tg, kv)) (ht : rt_c M.1 k = some (1, M', n)) (h1 : Nat.beq (st.take n).length n = true) (h2 : Nat.ble ((st.drop n).map fun v => v.category).sum 8 = true) (h3 : Nat.ble (ri_ent (st.take n).reverse).length M'.2.2.2.1 = true)
    (kk : ev_W d M' (0, ri_loc M'.2.2.2.1 (st.take n).reverse, []) σ (fun v σ' => ev_W (d + 1) M (np, L, v.toList ++ st.drop n) σ' Q)) : ev_W (d + 1) M (pc, L, st) σ Q := by
  refine ev_cl hf rfl ?_ h3 kk
  show ri_cl M (.invokestatic k) _ _ = _
  simp only [ri_cl, ht]
  rw [if_pos ⟨Nat.eq_of_beq_eq_true h1, Nat.le_of_ble_eq_true h2⟩]
theorem ev_clN {M' : ri_M} {k n : Nat} (hf : ri_find pc M.2.2.2.2.2 = some (.invokestatic k, np, tg, kv)) (ht : rt_c M.1 k = some (4, M', n)) (h1 : Nat.beq (st.take n).length n = true) (h2 : Nat.ble ((st.drop n).map fun v => v.category).sum 8 = true) (h3 : Nat.ble (ri_ent (st.take n).reverse).length M'.2.2.2.1 = true)
    (kk : ev_W d M' (0, ri_loc M'.2.2.2.1 (st.take n).reverse, []) σ (fun v σ' => ev_W (d + 1) M (np, L, v.toList ++ st.drop n) σ' Q)) : ev_W (d + 1) M (pc, L, st) σ Q := by
  refine ev_cl hf rfl ?_ h3 kk
  show ri_cl M (.invokestatic k) _ _ = _
  simp only [ri_cl, ht]
  rw [if_pos ⟨Nat.eq_of_beq_eq_true h1, Nat.le_of_ble_eq_true h2⟩]
theorem g_clS {M' : ri_M} {k n : Nat} (hgo : ri_go 99 M F = (pc, L, st)) (hf : ri_find pc M.2.2.2.2.2 = some (.invokestatic k, np, tg, kv)) (ht : rt_c M.1 k = some (1, M', n)) (h1 : Nat.beq (st.take n).length n = true) (h2 : Nat.ble ((st.drop n).map fun v => v.category).sum 8 = true) (h3 : Nat.ble (ri_ent (st.take n).reverse).length M'.2.2.2.1 = true)
    (kk : ev_W d M' (0, ri_loc M'.2.2.2.1 (st.take n).reverse, []) σ (fun v σ' => ev_W (d + 1) M (np, L, v.toList ++ st.drop n) σ' Q)) : ev_W (d + 1) M F σ Q := ev_go 99 hgo (ev_clS hf ht h1 h2 h3 kk)
theorem g_clN {M' : ri_M} {k n : Nat} (hgo : ri_go 99 M F = (pc, L, st)) (hf : ri_find pc M.2.2.2.2.2 = some (.invokestatic k, np, tg, kv)) (ht : rt_c M.1 k = some (4, M', n)) (h1 : Nat.beq (st.take n).length n = true) (h2 : Nat.ble ((st.drop n).map fun v => v.category).sum 8 = true) (h3 : Nat.ble (ri_ent (st.take n).reverse).length M'.2.2.2.1 = true)
    (kk : ev_W d M' (0, ri_loc M'.2.2.2.1 (st.take n).reverse, []) σ (fun v σ' => ev_W (d + 1) M (np, L, v.toList ++ st.drop n) σ' Q)) : ev_W (d + 1) M F σ Q := ev_go 99 hgo (ev_clN hf ht h1 h2 h3 kk)
/-- a constructor, and a nest mate's private one -/
theorem ev_clC {M' : ri_M} {k n b kd : Nat} (hf : ri_find pc M.2.2.2.2.2 = some (.invokespecial k, np, tg, kv)) (ht : rt_c M.1 k = some (kd, M', n)) (hk : kd = 2 ∨ kd = 5) (hd : st.drop n = .ref b :: r) (h1 : Nat.beq (st.take n).length n = true) (h2 : Nat.ble (r.map fun v => v.category).sum 8 = true) (h3 : Nat.ble (ri_ent (.ref b :: (st.take n).reverse)).length M'.2.2.2.1 = true)
    (kk : ev_W d M' (0, ri_loc M'.2.2.2.1 (.ref b :: (st.take n).reverse), []) σ (fun v σ' => ev_W (d + 1) M (np, L, v.toList ++ r) σ' Q)) : ev_W (d + 1) M (pc, L, st) σ Q := by
  refine ev_cl hf rfl ?_ h3 kk
  show ri_cl M (.invokespecial k) _ _ = _
  rcases hk with rfl | rfl
  · simp only [ri_cl, ht, hd]
    rw [if_pos ⟨Nat.eq_of_beq_eq_true h1, Nat.le_of_ble_eq_true h2⟩]
  · simp only [ri_cl, ht, hd]
    rw [if_pos ⟨Nat.eq_of_beq_eq_true h1, Nat.le_of_ble_eq_true h2⟩]
theorem g_clC {M' : ri_M} {k n b kd : Nat} (hgo : ri_go 99 M F = (pc, L, st)) (hf : ri_find pc M.2.2.2.2.2 = some (.invokespecial k, np, tg, kv)) (ht : rt_c M.1 k = some (kd, M', n)) (hk : kd = 2 ∨ kd = 5) (hd : st.drop n = .ref b :: r) (h1 : Nat.beq (st.take n).length n = true) (h2 : Nat.ble (r.map fun v => v.category).sum 8 = true) (h3 : Nat.ble (ri_ent (.ref b :: (st.take n).reverse)).length M'.2.2.2.1 = true)
    (kk : ev_W d M' (0, ri_loc M'.2.2.2.1 (.ref b :: (st.take n).reverse), []) σ (fun v σ' => ev_W (d + 1) M (np, L, v.toList ++ r) σ' Q)) : ev_W (d + 1) M F σ Q := ev_go 99 hgo (ev_clC hf ht hk hd h1 h2 h3 kk)
theorem nI_mul (m n : Nat) : nI m * nI n = nI (m * n) := (Int32.ofNat_mul m n).symm
theorem nI_c0 : (0 : Int32).toNatClampNeg = 0 := by decide +kernel
set_option maxRecDepth 100000 in
/-- Arrays.copyOf(row, N), N beyond the row's length: the row's role has moved -/
theorem ar_copyOf (hG : gw_P a D σ) {i n N : Nat} {f : Nat → Int32} {nd : Int32} (hr : D i = some (.inl (.int, n, .inl f))) (hN : n < N) (hN2 : N ≤ 200000) (hnd : nd = nI N)
    (kk : ∀ (f' : Nat → Int32) (σ' : ri_S), (∀ j, j < n → f' j = f j) → gw_P (va_up a i σ.2.1) (va_up D i (some (.inl (.int, N, .inl f')))) σ' → σ'.2 = (σ.2.1 + 1, σ.2.2 + N) → Q (some (.ref σ.2.1)) σ') : ev_W (d + 1) mAr_copyOf (0, [some (.ref (a i)), some (.int nd), none], []) σ Q := by
  subst hnd
  refine g_alen rfl rfl (hG.at hr) rfl ?_
  refine g_br rfl rfl rfl rfl rfl rfl (fun h => absurd ((nI_eq (by omega) (by omega)).mp h) (by omega)) (fun h => ?_)
  refine g_newi rfl rfl (nI_pos (by omega)) (nI_clamp (by omega)) (by omega) ?_
  have hc : ri_up σ.1 σ.2.1 (.inl (.int, N, .inl fun _ => 0)) (a i) = some (.inl (.int, n, .inl f)) := (ri_up_n (Nat.ne_of_lt (hG.lt hr))).trans (hG.at hr)
  refine g_alen rfl rfl hc rfl ?_
  refine g_min rfl rfl rfl rfl rfl ?_
  rw [if_neg (nI_nlt (by omega) (by omega))]
  refine g_cpy rfl rfl rfl rfl hc ri_up_s ⟨by decide, by decide, nI_pos (by omega)⟩ (by rw [nI_c0, nI_clamp (by omega)]; omega) (by rw [nI_c0, nI_clamp (by omega)]; omega) rfl ?_
  refine g_rt rfl rfl rfl (kk (va_cpy f (fun _ => 0) (0 : Int32).toNatClampNeg (0 : Int32).toNatClampNeg (nI n).toNatClampNeg) _ (fun j hj => ?_) ?_ rfl)
  · unfold va_cpy
    rw [nI_c0, nI_clamp (by omega), if_pos ⟨Nat.zero_le _, by omega⟩]
    congr 1
    omega
  · have h1 := hG.new i (.inl (.int, N, .inl fun _ => 0)) (σ.2.1 + 1) (σ.2.2 + N) (by omega)
    have h2 := h1.set (i := i) va_up_s (.inl (.int, N, .inl (va_cpy f (fun _ => 0) (0 : Int32).toNatClampNeg (0 : Int32).toNatClampNeg (nI n).toNatClampNeg)))
    rw [bx_uu, show va_up a i σ.2.1 i = σ.2.1 from va_up_s] at h2
    exact h2
set_option maxRecDepth 100000 in
/-- withRoom(row, needed) -/
theorem st_withRoom (hG : gw_P a D σ) {i n k : Nat} {f : Nat → Int32} {nd : Int32} (hr : D i = some (.inl (.int, n, .inl f))) (h24 : 24 ≤ n) (hn : n ≤ 50000) (hk : k ≤ 50000) (hnd : nd = nI k)
    (kk : ∀ (q n' : Nat) (f' : Nat → Int32) (σ' : ri_S), gw_P (va_up a i q) (va_up D i (some (.inl (.int, n', .inl f')))) σ' → (∀ j, j < n → f' j = f j) → k ≤ n' → n ≤ n' → (n' = n ∨ n' ≤ 2 * k) → gw_ro n n' σ σ' → Q (some (.ref q)) σ') : ev_W (d + 2) mSt_withRoom (0, [some (.ref (a i)), some (.int nd)], []) σ Q := by
  subst hnd
  refine g_alen rfl rfl (hG.at hr) rfl ?_
  refine g_br rfl rfl rfl rfl rfl rfl (fun h => ?_) (fun h => ?_)
  rotate_left
  · have hle : k ≤ n := by
      rcases Nat.lt_or_ge n k with z | z
      · exact absurd (nI_lt z (by omega)) h
      · exact z
    refine g_rt rfl rfl rfl (kk (a i) n f σ ?_ (fun _ _ => rfl) hle (Nat.le_refl _) (Or.inl rfl) (gw_ro.rf rfl))
    rw [va_up_id rfl, va_up_id hr]
    exact hG
  have hlt : n < k := (nI_ltI (by omega) (by omega)).mp h
  refine g_alen rfl rfl (hG.at hr) rfl ?_
  refine g_max rfl rfl rfl rfl rfl ?_
  obtain ⟨N, e, h1, h2, h3⟩ : ∃ N : Nat, (if nI k < (2 : Int32) * nI n then (2 : Int32) * nI n else nI k) = nI N ∧ k ≤ N ∧ 2 * n ≤ N ∧ N ≤ 2 * k := by
    rw [show (2 : Int32) * nI n = nI (2 * n) from nI_mul 2 n]
    by_cases z : k < 2 * n
    · exact ⟨2 * n, if_pos (nI_lt z (by omega)), by omega, by omega, by omega⟩
    · exact ⟨k, if_neg (nI_nlt (by omega) (by omega)), by omega, by omega, by omega⟩
  rw [e]
  refine g_clS rfl rfl rfl rfl rfl rfl ?_
  refine ar_copyOf hG hr (show n < N by omega) (by omega) rfl (fun f' σ' hf' hG' hs => ?_)
  refine g_rt rfl rfl rfl (kk σ.2.1 N f' σ' hG' hf' h1 (by omega) (Or.inr h3) ?_)
  unfold gw_ro
  rw [hs]
  omega
end GWS
end
section
/-! DRAFT, roles 1 .. 5: F fields, V values (of length lf, lv; k of them stand), G openGroups, W newestFields, dp depth, bg begun. -/
def dr_P (a : Nat → Nat) (D : Nat → Option ri_E) (F V G W : Nat → Int32) (lf lv k dp : Nat) (bg : Int32) : Prop :=
  D 1 = some (.inr (1, [.ref (a 2), .ref (a 3), .ref (a 4), .ref (a 5), .int (nI k), .int (nI dp), .int bg])) ∧ D 2 = some (.inl (.int, 17, .inl G)) ∧ D 3 = some (.inl (.int, 17, .inl W)) ∧ D 4 = some (.inl (.int, lf, .inl F)) ∧ D 5 = some (.inl (.int, lv, .inl V)) ∧ (k ≤ lf ∧ k ≤ lv ∧ 32 ≤ lf ∧ 32 ≤ lv ∧ lf ≤ 4096 ∧ lv ≤ 4096 ∧ k ≤ 2048 ∧ dp ≤ 16 ∧ (bg = 0 ∨ bg = 1))
section DR
variable {a : Nat → Nat} {D : Nat → Option ri_E} {F V G W : Nat → Int32} {lf lv k dp : Nat} {bg : Int32} {d : Nat} {σ : ri_S} {Q : Option Value → ri_S → Prop}
theorem dr_P.fr {a' : Nat → Nat} {D' : Nat → Option ri_E} (h : dr_P a D F V G W lf lv k dp bg) (hF : ∀ i, 1 ≤ i → i < 6 → D' i = D i ∧ a' i = a i) : dr_P a' D' F V G W lf lv k dp bg := by
  obtain ⟨h1, h2, h3, h4, h5, h6⟩ := h
  refine ⟨?_, ?_, ?_, ?_, ?_, h6⟩
  · rw [(hF 1 (by decide) (by decide)).1, (hF 2 (by decide) (by decide)).2, (hF 3 (by decide) (by decide)).2, (hF 4 (by decide) (by decide)).2, (hF 5 (by decide) (by decide)).2]; exact h1
  · rw [(hF 2 (by decide) (by decide)).1]; exact h2
  · rw [(hF 3 (by decide) (by decide)).1]; exact h3
  · rw [(hF 4 (by decide) (by decide)).1]; exact h4
  · rw [(hF 5 (by decide) (by decide)).1]; exact h5
set_option maxRecDepth 100000 in
/-- clear() -/
theorem dr_clear (hG : gw_P a D σ) (hd : dr_P a D F V G W lf lv k dp bg) (kk : ∀ (D' : Nat → Option ri_E) (σ' : ri_S), gw_P a D' σ' → dr_P a D' F V G W lf lv 0 0 0 → gw_F 1 6 a D a D' → σ'.2 = σ.2 → Q none σ') : ev_W d mDr_clear (0, [some (.ref (a 1))], []) σ Q := by
  obtain ⟨h1, h2, h3, h4, h5, h6⟩ := hd
  refine gw_put hG h1 rfl rfl rfl rfl rfl rfl (fun σ1 hG1 e1 => ?_)
  refine gw_put hG1 (i := 1) rfl rfl rfl rfl rfl rfl rfl (fun σ2 hG2 e2 => ?_)
  refine gw_put hG2 (i := 1) rfl rfl rfl rfl rfl rfl rfl (fun σ3 hG3 e3 => ?_)
  refine g_rt rfl rfl rfl (kk _ σ3 hG3 ⟨rfl, h2, h3, h4, h5, ?_⟩ ?_ ?_)
  · exact ⟨Nat.zero_le _, Nat.zero_le _, h6.2.2.1, h6.2.2.2.1, h6.2.2.2.2.1, h6.2.2.2.2.2.1, Nat.zero_le _, Nat.zero_le _, Or.inl rfl⟩
  · exact ((gw_F.rf.up (by decide) (by decide)).up (by decide) (by decide)).up (by decide) (by decide)
  · exact e3.trans (e2.trans e1)
set_option maxRecDepth 100000 in
/-- start() -/
theorem dr_start (hG : gw_P a D σ) (hd : dr_P a D F V G W lf lv k dp bg) (kk : ∀ (D' : Nat → Option ri_E) (σ' : ri_S), gw_P a D' σ' → dr_P a D' F V (upd G 0 (-1)) (upd W 0 (-1)) lf lv 0 0 1 → gw_F 1 6 a D a D' → σ'.2 = σ.2 → Q none σ') : ev_W (d + 1) mDr_start (0, [some (.ref (a 1))], []) σ Q := by
  refine g_clV rfl rfl rfl rfl (hG.at hd.1) rfl rfl rfl ?_
  refine dr_clear hG hd (fun D1 σ1 hG1 hd1 hF1 e1 => ?_)
  obtain ⟨h1, h2, h3, h4, h5, h6⟩ := hd1
  refine gw_put hG1 h1 rfl rfl rfl rfl rfl rfl (fun σ2 hG2 e2 => ?_)
  refine g_get rfl rfl rfl (hG2.at (i := 1) rfl) rfl ?_
  refine gw_ast hG2 (i := 2) h2 rfl rfl (show (0 : Int32) = nI 0 from rfl) (by decide) (by decide) (fun σ3 hG3 e3 => ?_)
  refine g_get rfl rfl rfl (hG3.at (i := 1) rfl) rfl ?_
  refine gw_ast hG3 (i := 3) h3 rfl rfl (show (0 : Int32) = nI 0 from rfl) (by decide) (by decide) (fun σ4 hG4 e4 => ?_)
  refine g_rt rfl rfl rfl (kk _ σ4 hG4 ⟨rfl, rfl, rfl, h4, h5, ?_⟩ ?_ ?_)
  · exact ⟨h6.1, h6.2.1, h6.2.2.1, h6.2.2.2.1, h6.2.2.2.2.1, h6.2.2.2.2.2.1, h6.2.2.2.2.2.2.1, h6.2.2.2.2.2.2.2.1, Or.inr rfl⟩
  · exact hF1.tr (((gw_F.rf.up (by decide) (by decide)).up (by decide) (by decide)).up (by decide) (by decide))
  · exact e4.trans (e3.trans (e2.trans e1))
set_option maxRecDepth 100000 in
/-- group() -/
theorem dr_group (hG : gw_P a D σ) (hd : dr_P a D F V G W lf lv k dp bg) (kk : Q (some (.int (G dp))) σ) : ev_W d mDr_group (0, [some (.ref (a 1))], []) σ Q := by
  refine g_get rfl rfl rfl (hG.at hd.1) rfl ?_
  refine g_get rfl rfl rfl (hG.at hd.1) rfl ?_
  refine gw_ald hG hd.2.1 rfl rfl rfl (by have := hd.2.2.2.2.2; omega) (by decide) ?_
  exact g_rt rfl rfl rfl kk
set_option maxRecDepth 100000 in
/-- newest() -/
theorem dr_newest (hG : gw_P a D σ) (hd : dr_P a D F V G W lf lv k dp bg) (kk : Q (some (.int (W dp))) σ) : ev_W d mDr_newest (0, [some (.ref (a 1))], []) σ Q := by
  refine g_get rfl rfl rfl (hG.at hd.1) rfl ?_
  refine g_get rfl rfl rfl (hG.at hd.1) rfl ?_
  refine gw_ald hG hd.2.2.1 rfl rfl rfl (by have := hd.2.2.2.2.2; omega) (by decide) ?_
  exact g_rt rfl rfl rfl kk
/-- the occurrence at t -/
def dr_at (F : Nat → Int32) (k : Nat) (x : Int32) (t : Int32) : Int32 := if t < 0 ∨ nI k ≤ t then x else F t.toNatClampNeg
set_option maxRecDepth 100000 in
/-- fieldAt(t) -/
theorem dr_fieldAt (hG : gw_P a D σ) (hd : dr_P a D F V G W lf lv k dp bg) {t : Int32} (kk : Q (some (.int (dr_at F k (-1) t))) σ) : ev_W d mDr_fieldAt (0, [some (.ref (a 1)), some (.int t)], []) σ Q := by
  have hb := hd.2.2.2.2.2
  unfold dr_at at kk
  refine g_br rfl rfl rfl rfl rfl rfl (fun h => ?_) (fun h => ?_)
  · rw [if_pos (Or.inl h)] at kk
    exact g_rt rfl rfl rfl kk
  refine g_get rfl rfl rfl (hG.at hd.1) rfl ?_
  refine g_br rfl rfl rfl rfl rfl rfl (fun h2 => ?_) (fun h2 => ?_)
  · rw [if_pos (Or.inr h2)] at kk
    exact g_rt rfl rfl rfl kk
  rw [if_neg (fun z => z.elim h h2)] at kk
  obtain ⟨w, hw, rfl⟩ := nI_of h
  have hwk : w < k := by
    rcases Nat.lt_or_ge w k with z | z
    · exact z
    · exact absurd (nI_le z hw) h2
  rw [nI_clamp hw] at kk
  refine g_get rfl rfl rfl (hG.at hd.1) rfl ?_
  refine gw_ald hG hd.2.2.2.1 rfl rfl rfl (by omega) (by omega) ?_
  exact g_rt rfl rfl rfl kk
set_option maxRecDepth 100000 in
/-- valueAt(t) -/
theorem dr_valueAt (hG : gw_P a D σ) (hd : dr_P a D F V G W lf lv k dp bg) {t : Int32} (kk : Q (some (.int (dr_at V k 0 t))) σ) : ev_W d mDr_valueAt (0, [some (.ref (a 1)), some (.int t)], []) σ Q := by
  have hb := hd.2.2.2.2.2
  unfold dr_at at kk
  refine g_br rfl rfl rfl rfl rfl rfl (fun h => ?_) (fun h => ?_)
  · rw [if_pos (Or.inl h)] at kk
    exact g_rt rfl rfl rfl kk
  refine g_get rfl rfl rfl (hG.at hd.1) rfl ?_
  refine g_br rfl rfl rfl rfl rfl rfl (fun h2 => ?_) (fun h2 => ?_)
  · rw [if_pos (Or.inr h2)] at kk
    exact g_rt rfl rfl rfl kk
  rw [if_neg (fun z => z.elim h h2)] at kk
  obtain ⟨w, hw, rfl⟩ := nI_of h
  have hwk : w < k := by
    rcases Nat.lt_or_ge w k with z | z
    · exact z
    · exact absurd (nI_le z hw) h2
  rw [nI_clamp hw] at kk
  refine g_get rfl rfl rfl (hG.at hd.1) rfl ?_
  refine gw_ald hG hd.2.2.2.2.1 rfl rfl rfl (by omega) (by omega) ?_
  exact g_rt rfl rfl rfl kk
set_option maxRecDepth 100000 in
/-- leave() -/
theorem dr_leave (hG : gw_P a D σ) (hd : dr_P a D F V G W lf lv k (dp + 1) bg) (kk : ∀ (D' : Nat → Option ri_E) (σ' : ri_S), gw_P a D' σ' → dr_P a D' F V G W lf lv k dp bg → gw_F 1 6 a D a D' → σ'.2 = σ.2 → Q none σ') : ev_W d mDr_leave (0, [some (.ref (a 1))], []) σ Q := by
  have hb := hd.2.2.2.2.2
  refine g_get rfl rfl rfl (hG.at hd.1) rfl ?_
  refine g_br rfl rfl rfl rfl rfl rfl (fun h => absurd h (nI_nle (by omega) (by omega))) (fun h => ?_)
  refine g_get rfl rfl rfl (hG.at hd.1) rfl ?_
  refine gw_put hG hd.1 rfl rfl rfl rfl rfl rfl (fun σ1 hG1 e1 => ?_)
  rw [nI_pred] at hG1
  refine g_rt rfl rfl rfl (kk _ σ1 hG1 ⟨rfl, hd.2.1, hd.2.2.1, hd.2.2.2.1, hd.2.2.2.2.1, ⟨by omega, by omega, by omega, by omega, by omega, by omega, by omega, by omega, hb.2.2.2.2.2.2.2.2⟩⟩ (gw_F.rf.up (by decide) (by decide)) e1)
set_option maxRecDepth 100000 in
/-- enter(group) -/
theorem dr_enter (hG : gw_P a D σ) (hd : dr_P a D F V G W lf lv k dp bg) (hdp : dp < 16) {g : Int32} (kk : ∀ (D' : Nat → Option ri_E) (σ' : ri_S), gw_P a D' σ' → dr_P a D' F V (upd G (dp + 1) g) (upd W (dp + 1) (-1)) lf lv k (dp + 1) bg → gw_F 1 6 a D a D' → σ'.2 = σ.2 → Q none σ') : ev_W d mDr_enter (0, [some (.ref (a 1)), some (.int g)], []) σ Q := by
  have hb := hd.2.2.2.2.2
  refine g_get rfl rfl rfl (hG.at hd.1) rfl ?_
  refine g_br rfl rfl rfl rfl rfl rfl (fun h => ?_) (fun h => absurd (show nI dp < nI 16 from nI_lt hdp (by decide)) h)
  refine g_get rfl rfl rfl (hG.at hd.1) rfl ?_
  refine gw_put hG hd.1 rfl rfl rfl rfl rfl rfl (fun σ1 hG1 e1 => ?_)
  rw [nI_1] at hG1
  refine g_get rfl rfl rfl (hG1.at (i := 1) rfl) rfl ?_
  refine g_get rfl rfl rfl (hG1.at (i := 1) rfl) rfl ?_
  refine gw_ast hG1 (i := 2) hd.2.1 rfl rfl rfl (show dp + 1 < 17 by omega) (by decide) (fun σ2 hG2 e2 => ?_)
  refine g_get rfl rfl rfl (hG2.at (i := 1) rfl) rfl ?_
  refine g_get rfl rfl rfl (hG2.at (i := 1) rfl) rfl ?_
  refine gw_ast hG2 (i := 3) hd.2.2.1 rfl rfl rfl (show dp + 1 < 17 by omega) (by decide) (fun σ3 hG3 e3 => ?_)
  refine g_rt rfl rfl rfl (kk _ σ3 hG3 ⟨rfl, rfl, rfl, hd.2.2.2.1, hd.2.2.2.2.1, ⟨by omega, by omega, by omega, by omega, by omega, by omega, by omega, by omega, hb.2.2.2.2.2.2.2.2⟩⟩ ?_ ?_)
  · exact ((gw_F.rf.up (by decide) (by decide)).up (by decide) (by decide)).up (by decide) (by decide)
  · exact e3.trans (e2.trans e1)
set_option maxRecDepth 100000 in
/-- add(field, value) -/
theorem dr_add (hG : gw_P a D σ) (hd : dr_P a D F V G W lf lv k dp bg) (hk : k < 2048) {f v : Int32} (kk : ∀ (a' : Nat → Nat) (D' : Nat → Option ri_E) (σ' : ri_S) (F' V' : Nat → Int32) (lf' lv' : Nat), gw_P a' D' σ' → dr_P a' D' F' V' G (upd W dp f) lf' lv' (k + 1) dp bg → (∀ j, j < k → F' j = F j ∧ V' j = V j) → F' k = f → V' k = v → gw_F 1 6 a D a' D' → a' 1 = a 1 → gw_ro (lf + lv) (lf' + lv') σ σ' → Q none σ') : ev_W (d + 3) mDr_add (0, [some (.ref (a 1)), some (.int f), some (.int v)], []) σ Q := by
  have hb := hd.2.2.2.2.2
  obtain ⟨h1, h2, h3, h4, h5, -⟩ := hd
  refine g_get rfl rfl rfl (hG.at h1) rfl ?_
  refine g_br rfl rfl rfl rfl rfl rfl (fun h => ?_) (fun h => absurd (show nI k < nI 2048 from nI_lt hk (by decide)) h)
  refine g_get rfl rfl rfl (hG.at h1) rfl ?_
  refine g_get rfl rfl rfl (hG.at h1) rfl ?_
  refine g_clN rfl rfl rfl rfl rfl rfl ?_
  refine st_withRoom hG h4 (by omega) (by omega) (show k + 1 ≤ 50000 by omega) (nI_1 k) (fun q1 n1 f1 σ1 hG1 hf1 hk1 hn1 hl1 ho1 => ?_)
  refine gw_put hG1 (i := 1) h1 rfl rfl rfl rfl rfl rfl (fun σ2 hG2 e2 => ?_)
  refine g_get rfl rfl rfl (hG2.at (i := 1) rfl) rfl ?_
  refine g_get rfl rfl rfl (hG2.at (i := 1) rfl) rfl ?_
  refine g_clN rfl rfl rfl rfl rfl rfl ?_
  refine st_withRoom hG2 (i := 5) h5 (by omega) (by omega) (show k + 1 ≤ 50000 by omega) (nI_1 k) (fun q2 n2 f2 σ3 hG3 hf2 hk2 hn2 hl2 ho2 => ?_)
  refine gw_put hG3 (i := 1) rfl rfl rfl rfl rfl rfl rfl (fun σ4 hG4 e4 => ?_)
  refine g_get rfl rfl rfl (hG4.at (i := 1) rfl) rfl ?_
  refine g_get rfl rfl rfl (hG4.at (i := 1) rfl) rfl ?_
  refine gw_ast hG4 (i := 4) rfl rfl rfl rfl (show k < n1 by omega) (by omega) (fun σ5 hG5 e5 => ?_)
  refine g_get rfl rfl rfl (hG5.at (i := 1) rfl) rfl ?_
  refine g_get rfl rfl rfl (hG5.at (i := 1) rfl) rfl ?_
  refine gw_ast hG5 (i := 5) rfl rfl rfl rfl (show k < n2 by omega) (by omega) (fun σ6 hG6 e6 => ?_)
  refine g_get rfl rfl rfl (hG6.at (i := 1) rfl) rfl ?_
  refine gw_put hG6 (i := 1) rfl rfl rfl rfl rfl rfl rfl (fun σ7 hG7 e7 => ?_)
  rw [nI_1] at hG7
  refine g_get rfl rfl rfl (hG7.at (i := 1) rfl) rfl ?_
  refine g_get rfl rfl rfl (hG7.at (i := 1) rfl) rfl ?_
  refine gw_ast hG7 (i := 3) h3 rfl rfl rfl (show dp < 17 by omega) (by decide) (fun σ8 hG8 e8 => ?_)
  refine g_rt rfl rfl rfl (kk _ _ σ8 _ _ n1 n2 hG8 ⟨rfl, h2, rfl, rfl, rfl, ⟨by omega, by omega, by omega, by omega, by omega, by omega, by omega, by omega, hb.2.2.2.2.2.2.2.2⟩⟩ (fun j hj => ⟨?_, ?_⟩) ?_ ?_ ?_ rfl ?_)
  · exact (if_neg (by omega)).trans (hf1 j (by omega))
  · exact (if_neg (by omega)).trans (hf2 j (by omega))
  · exact if_pos rfl
  · exact if_pos rfl
  · intro j hj
    refine ⟨?_, ?_⟩
    · exact (va_up_n (by omega)).trans <| (va_up_n (by omega)).trans <| (va_up_n (by omega)).trans <| (va_up_n (by omega)).trans <| (va_up_n (by omega)).trans <| (va_up_n (by omega)).trans <| (va_up_n (by omega)).trans <| va_up_n (by omega)
    · exact (va_up_n (by omega)).trans (va_up_n (by omega))
  · have e : σ8.2 = σ3.2 := e8.trans (e7.trans (e6.trans (e5.trans e4)))
    unfold gw_ro at *
    rw [e]
    rw [e2] at ho2
    omega
end DR
end
section
/-! EVENTS, roles 6 and 7: k events stand in the row E of length le. -/
def es_P (a : Nat → Nat) (D : Nat → Option ri_E) (E : Nat → Int32) (le k : Nat) : Prop := D 6 = some (.inr (2, [.ref (a 7), .int (nI k)])) ∧ D 7 = some (.inl (.int, le, .inl E)) ∧ (2 * k ≤ le ∧ 64 ≤ le ∧ le ≤ 16384 ∧ k ≤ 4096)
section ES
variable {a : Nat → Nat} {D : Nat → Option ri_E} {E : Nat → Int32} {le k : Nat} {d : Nat} {σ : ri_S} {Q : Option Value → ri_S → Prop}
theorem es_P.fr {a' : Nat → Nat} {D' : Nat → Option ri_E} (h : es_P a D E le k) (hF : ∀ i, 6 ≤ i → i < 8 → D' i = D i ∧ a' i = a i) : es_P a' D' E le k := by
  obtain ⟨h1, h2, h3⟩ := h
  refine ⟨?_, ?_, h3⟩
  · rw [(hF 6 (by decide) (by decide)).1, (hF 7 (by decide) (by decide)).2]; exact h1
  · rw [(hF 7 (by decide) (by decide)).1]; exact h2
set_option maxRecDepth 100000 in
/-- clear() -/
theorem es_clear (hG : gw_P a D σ) (hd : es_P a D E le k) (kk : ∀ (D' : Nat → Option ri_E) (σ' : ri_S), gw_P a D' σ' → es_P a D' E le 0 → gw_F 6 8 a D a D' → σ'.2 = σ.2 → Q none σ') : ev_W d mEv_clear (0, [some (.ref (a 6))], []) σ Q := by
  refine gw_put hG hd.1 rfl rfl rfl rfl rfl rfl (fun σ1 hG1 e1 => ?_)
  have hb := hd.2.2
  exact g_rt rfl rfl rfl (kk _ σ1 hG1 ⟨rfl, hd.2.1, by omega⟩ (gw_F.rf.up (by decide) (by decide)) e1)
set_option maxRecDepth 100000 in
/-- add(event, value) -/
theorem es_add (hG : gw_P a D σ) (hd : es_P a D E le k) {e v : Int32} (kfull : k = 4096 → Q none σ) (kk : ∀ (a' : Nat → Nat) (D' : Nat → Option ri_E) (σ' : ri_S) (E' : Nat → Int32) (le' : Nat), k < 4096 → gw_P a' D' σ' → es_P a' D' E' le' (k + 1) → (∀ j, j < 2 * k → E' j = E j) → E' (2 * k) = e → E' (2 * k + 1) = v → gw_F 6 8 a D a' D' → a' 6 = a 6 → gw_ro le le' σ σ' → Q none σ') : ev_W (d + 3) mEv_add (0, [some (.ref (a 6)), some (.int e), some (.int v), none], []) σ Q := by
  have hb := hd.2.2
  obtain ⟨h1, h2, -⟩ := hd
  refine g_get rfl rfl rfl (hG.at h1) rfl ?_
  refine g_br rfl rfl rfl rfl rfl rfl (fun h => ?_) (fun h => ?_)
  rotate_left
  · refine g_rt rfl rfl rfl (kfull ?_)
    rcases Nat.lt_or_ge k 4096 with z | z
    · exact absurd (show nI k < nI 4096 from nI_lt z (by decide)) h
    · omega
  have hk : k < 4096 := (nI_ltI (b := 4096) (by omega) (by decide)).mp h
  refine g_get rfl rfl rfl (hG.at h1) rfl ?_
  refine g_get rfl rfl rfl (hG.at h1) rfl ?_
  have e2 : (2 : Int32) * nI k = nI (2 * k) := nI_mul 2 k
  refine g_clN rfl rfl rfl rfl rfl rfl ?_
  refine st_withRoom hG h2 (by omega) (by omega) (show 2 * k + 2 ≤ 50000 by omega) (by show (2 : Int32) * nI k + 2 = _; rw [e2]; exact nI_add (2 * k) 2) (fun q1 n1 f1 σ1 hG1 hf1 hk1 hn1 hl1 ho1 => ?_)
  refine gw_put hG1 (i := 6) h1 rfl rfl rfl rfl rfl rfl (fun σ2 hG2 e3 => ?_)
  refine g_get rfl rfl rfl (hG2.at (i := 6) rfl) rfl ?_
  refine gw_ast hG2 (i := 7) rfl rfl rfl e2 (show 2 * k < n1 by omega) (by omega) (fun σ3 hG3 e4 => ?_)
  refine g_get rfl rfl rfl (hG3.at (i := 6) rfl) rfl ?_
  refine gw_ast hG3 (i := 7) rfl rfl rfl (by show (2 : Int32) * nI k + 1 = _; rw [e2]; exact nI_1 (2 * k)) (show 2 * k + 1 < n1 by omega) (by omega) (fun σ4 hG4 e5 => ?_)
  refine g_get rfl rfl rfl (hG4.at (i := 6) rfl) rfl ?_
  refine gw_put hG4 (i := 6) rfl rfl rfl rfl rfl rfl rfl (fun σ5 hG5 e6 => ?_)
  rw [nI_1] at hG5
  refine g_rt rfl rfl rfl (kk _ _ σ5 _ n1 hk hG5 ⟨rfl, rfl, by omega⟩ (fun j hj => ?_) ?_ ?_ ?_ rfl ?_)
  · exact (if_neg (by omega)).trans ((if_neg (by omega)).trans (hf1 j (by omega)))
  · exact (if_neg (by omega)).trans (if_pos rfl)
  · exact if_pos rfl
  · intro j hj
    refine ⟨?_, ?_⟩
    · exact (va_up_n (by omega)).trans <| (va_up_n (by omega)).trans <| (va_up_n (by omega)).trans <| (va_up_n (by omega)).trans <| va_up_n (by omega)
    · exact va_up_n (by omega)
  · have e : σ5.2 = σ1.2 := e6.trans (e5.trans (e4.trans e3))
    unfold gw_ro at *
    rw [e]
    exact ho1
/-- what event(k, what) answers -/
def es_rd (E : Nat → Int32) (k : Nat) (x wh : Int32) : Int32 := if x < 0 ∨ nI k ≤ x ∨ wh < 0 ∨ 2 ≤ wh then -1 else E (2 * x.toNatClampNeg + wh.toNatClampNeg)
set_option maxRecDepth 100000 in
/-- read(k, what) -/
theorem es_read (hG : gw_P a D σ) (hd : es_P a D E le k) {x wh : Int32} (kk : Q (some (.int (es_rd E k x wh))) σ) : ev_W d mEv_read (0, [some (.ref (a 6)), some (.int x), some (.int wh)], []) σ Q := by
  have hb := hd.2.2
  unfold es_rd at kk
  refine g_br rfl rfl rfl rfl rfl rfl (fun h => ?_) (fun h => ?_)
  · rw [if_pos (Or.inl h)] at kk
    exact g_rt rfl rfl rfl kk
  refine g_get rfl rfl rfl (hG.at hd.1) rfl ?_
  refine g_br rfl rfl rfl rfl rfl rfl (fun h2 => ?_) (fun h2 => ?_)
  · rw [if_pos (Or.inr (Or.inl h2))] at kk
    exact g_rt rfl rfl rfl kk
  refine g_br rfl rfl rfl rfl rfl rfl (fun h3 => ?_) (fun h3 => ?_)
  · rw [if_pos (Or.inr (Or.inr (Or.inl h3)))] at kk
    exact g_rt rfl rfl rfl kk
  refine g_br rfl rfl rfl rfl rfl rfl (fun h4 => ?_) (fun h4 => ?_)
  rotate_left
  · rw [if_pos (Or.inr (Or.inr (Or.inr (Int32.not_lt.mp h4))))] at kk
    exact g_rt rfl rfl rfl kk
  rw [if_neg (fun z => z.elim h (fun z => z.elim h2 (fun z => z.elim h3 (fun z => absurd h4 (Int32.not_lt.mpr z)))))] at kk
  obtain ⟨p, hp, rfl⟩ := nI_of h
  obtain ⟨q, hq, rfl⟩ := nI_of h3
  have hpk : p < k := by
    rcases Nat.lt_or_ge p k with z | z
    · exact z
    · exact absurd (nI_le z hp) h2
  have hq2 : q < 2 := (nI_ltI (b := 2) hq (by decide)).mp h4
  rw [nI_clamp hp, nI_clamp hq] at kk
  refine g_get rfl rfl rfl (hG.at hd.1) rfl ?_
  refine gw_ald hG hd.2.1 rfl rfl (by show (2 : Int32) * nI p + nI q = _; rw [show (2 : Int32) * nI p = nI (2 * p) from nI_mul 2 p]; exact nI_add _ _) (by omega) (by omega) ?_
  exact g_rt rfl rfl rfl kk
end ES
end
section
/-! COLUMNS, roles 9 .. 59: n columns; column c has the entries col c (repetition level, definition level, value) in a row of length ln c. -/
abbrev co_E : Type := Int32 × Int32 × Int32
def co_row (l : List co_E) (Y : Nat → Int32) : Prop := ∀ q e, l[q]? = some e → Y (3 * q) = e.1 ∧ Y (3 * q + 1) = e.2.1 ∧ Y (3 * q + 2) = e.2.2
def co_P (a : Nat → Nat) (D : Nat → Option ri_E) (n : Nat) (col : Nat → List co_E) (ln : Nat → Nat) : Prop :=
  D 9 = some (.inr (0, [.ref (a 10), .ref (a 11)])) ∧ (∃ Z : Nat → Int32, D 10 = some (.inl (.int, n, .inl Z)) ∧ ∀ c, c < n → Z c = nI (col c).length) ∧ (∃ R : Nat → Option Nat, D 11 = some (.inl (.array .int, n, .inr (.inr (.inr (.inr R))))) ∧ ∀ c, c < n → R c = some (a (12 + c))) ∧ (∀ c, c < n → ∃ Y : Nat → Int32, D (12 + c) = some (.inl (.int, ln c, .inl Y)) ∧ co_row (col c) Y ∧ (3 * (col c).length ≤ ln c ∧ 24 ≤ ln c ∧ ln c ≤ 13056 ∧ (col c).length ≤ 2176)) ∧ n ≤ 48
/-- the sum of the first n -/
def co_su : Nat → (Nat → Nat) → Nat
  | 0, _ => 0
  | n + 1, f => co_su n f + f n
theorem co_su_cg {f g : Nat → Nat} : ∀ n, (∀ c, c < n → f c = g c) → co_su n f = co_su n g
  | 0, _ => rfl
  | n + 1, h => by
    show co_su n f + f n = co_su n g + g n
    rw [co_su_cg n (fun c hc => h c (by omega)), h n (by omega)]
theorem co_su_up {f : Nat → Nat} {c x : Nat} : ∀ n, c < n → co_su n (va_up f c x) + f c = co_su n f + x
  | 0, h => absurd h (Nat.not_lt_zero _)
  | n + 1, h => by
    show co_su n (va_up f c x) + va_up f c x n + f c = co_su n f + f n + x
    by_cases z : c = n
    · rw [z, va_up_s, co_su_cg (f := va_up f n x) (g := f) n (fun j hj => va_up_n (by omega))]
      omega
    · rw [va_up_n (fun q => z q.symm)]
      have := co_su_up (f := f) (c := c) (x := x) n (by omega)
      omega
theorem co_su_le {f : Nat → Nat} {B : Nat} : ∀ n, (∀ c, c < n → f c ≤ B) → co_su n f ≤ n * B
  | 0, _ => Nat.zero_le _
  | n + 1, h => by
    show co_su n f + f n ≤ _
    have h1 := co_su_le n (fun c hc => h c (by omega))
    have h2 := h n (by omega)
    rw [Nat.succ_mul]
    omega
section CO
variable {a : Nat → Nat} {D : Nat → Option ri_E} {n : Nat} {col : Nat → List co_E} {ln : Nat → Nat} {d : Nat} {σ : ri_S} {Q : Option Value → ri_S → Prop}
theorem co_P.fr {a' : Nat → Nat} {D' : Nat → Option ri_E} (h : co_P a D n col ln) (hF : ∀ i, 9 ≤ i → i < 60 → D' i = D i ∧ a' i = a i) : co_P a' D' n col ln := by
  obtain ⟨h1, ⟨Z, h2, h2'⟩, ⟨R, h3, h3'⟩, h4, h5⟩ := h
  refine ⟨?_, ⟨Z, ?_, h2'⟩, ⟨R, ?_, fun c hc => ?_⟩, fun c hc => ?_, h5⟩
  · rw [(hF 9 (by decide) (by decide)).1, (hF 10 (by decide) (by decide)).2, (hF 11 (by decide) (by decide)).2]; exact h1
  · rw [(hF 10 (by decide) (by decide)).1]; exact h2
  · rw [(hF 11 (by decide) (by decide)).1]; exact h3
  · rw [(hF (12 + c) (by omega) (by omega)).2]; exact h3' c hc
  · obtain ⟨Y, y1, y2, y3⟩ := h4 c hc
    exact ⟨Y, (hF (12 + c) (by omega) (by omega)).1.trans y1, y2, y3⟩
set_option maxRecDepth 100000 in
/-- has(column) -/
theorem co_has (hG : gw_P a D σ) (hd : co_P a D n col ln) {x : Int32} (k1 : ∀ c, c < n → x = nI c → Q (some (.int 1)) σ) (k0 : (∀ c, c < n → ¬ x = nI c) → Q (some (.int 0)) σ) : ev_W d mCo_has (0, [some (.ref (a 9)), some (.int x)], []) σ Q := by
  obtain ⟨h1, ⟨Z, h2, h2'⟩, -, -, h5⟩ := hd
  refine g_br rfl rfl rfl rfl rfl rfl (fun h => ?_) (fun h => ?_)
  · refine g_rt rfl rfl rfl (k0 (fun w hw e => ?_))
    rw [e] at h
    exact nI_pos (by omega) h
  refine g_get rfl rfl rfl (hG.at h1) rfl ?_
  refine g_alen rfl rfl (hG.at h2) rfl ?_
  obtain ⟨w, hw, rfl⟩ := nI_of h
  refine g_br rfl rfl rfl rfl rfl rfl (fun h2 => ?_) (fun h2 => ?_)
  · refine g_rt rfl rfl rfl (k0 (fun w' hw' e => ?_))
    have := (nI_leI (by omega) hw).mp h2
    have := (nI_eq hw (by omega)).mp e
    omega
  · refine g_rt rfl rfl rfl (k1 w ?_ rfl)
    rcases Nat.lt_or_ge w n with z | z
    · exact z
    · exact absurd (nI_le z hw) h2
/-- how many entries -/
def co_sz (n : Nat) (col : Nat → List co_E) (x : Int32) : Int32 := if 0 ≤ x ∧ x < nI n then nI (col x.toNatClampNeg).length else -1
theorem co_in {n c : Nat} (hn : n ≤ 48) (hc : c < n) : 0 ≤ nI c ∧ nI c < nI n := ⟨nI_pos' (by omega), nI_lt hc (by omega)⟩
theorem co_out {n : Nat} {x : Int32} (hn : n ≤ 48) (h : ∀ c, c < n → ¬ x = nI c) : ¬ (0 ≤ x ∧ x < nI n) := fun z => by
  obtain ⟨w, hw, rfl⟩ := nI_of (Int32.not_lt.mpr z.1)
  exact h w ((nI_ltI hw (by omega)).mp z.2) rfl
set_option maxRecDepth 100000 in
/-- sizeOf(column) -/
theorem co_sizeOf (hG : gw_P a D σ) (hd : co_P a D n col ln) {x : Int32} (kk : Q (some (.int (co_sz n col x))) σ) : ev_W (d + 1) mCo_sizeOf (0, [some (.ref (a 9)), some (.int x)], []) σ Q := by
  unfold co_sz at kk
  refine g_clV rfl rfl rfl rfl (hG.at hd.1) rfl rfl rfl ?_
  refine co_has hG hd (fun c hc e => ?_) (fun h0 => ?_)
  · subst e
    rw [if_pos (co_in hd.2.2.2.2 hc), nI_clamp (by have := hd.2.2.2.2; omega)] at kk
    obtain ⟨h1, ⟨Z, h2, h2'⟩, -, -, h5⟩ := hd
    refine g_br rfl rfl rfl rfl rfl rfl (fun h => absurd h (by decide)) (fun h => ?_)
    refine g_get rfl rfl rfl (hG.at h1) rfl ?_
    refine gw_ald hG h2 rfl rfl rfl hc (by omega) ?_
    rw [h2' c hc]
    exact g_rt rfl rfl rfl kk
  · rw [if_neg (co_out hd.2.2.2.2 h0)] at kk
    refine g_br rfl rfl rfl rfl rfl rfl (fun h => ?_) (fun h => absurd rfl h)
    exact g_rt rfl rfl rfl kk
/-- part w of entry e -/
def co_pt (e : co_E) (w : Int32) : Int32 := if w = 0 then e.1 else if w = 1 then e.2.1 else e.2.2
/-- what entry(column, k, what) answers -/
def co_rd (n : Nat) (col : Nat → List co_E) (x k w : Int32) : Int32 := if 0 ≤ x ∧ x < nI n then (if k < 0 ∨ w < 0 ∨ 3 ≤ w then -1 else match (col x.toNatClampNeg)[k.toNatClampNeg]? with
  | some e => co_pt e w
  | none => -1) else -1
theorem gw_aald {M : ri_M} {F : ri_F} {pc np tg : Nat} {kv : Int32} {L : List (Option Value)} {r : List Value} (hG : gw_P a D σ) {i n q p : Nat} {j : Int32} {f : Nat → Option Nat} (hd : D i = some (.inl (.array .int, n, .inr (.inr (.inr (.inr f)))))) (hgo : ri_go 99 M F = (pc, L, .int j :: .ref (a i) :: r)) (hf : ri_find pc M.2.2.2.2.2 = some (.aaload, np, tg, kv)) (hj : j = nI q) (hq : q < n) (hn : n < 2 ^ 31) (hp : f q = some p) (kk : ev_W d M (np, L, .ref p :: r) σ Q) : ev_W d M F σ Q := by
  subst hj
  refine g_aald hgo hf (hG.at hd) (nI_in hq hn) ?_
  rw [nI_clamp (by omega), hp]
  exact kk
set_option maxRecDepth 100000 in
/-- read(column, k, what) -/
theorem co_read (hG : gw_P a D σ) (hd : co_P a D n col ln) {x k w : Int32} (kk : Q (some (.int (co_rd n col x k w))) σ) : ev_W (d + 1) mCo_read (0, [some (.ref (a 9)), some (.int x), some (.int k), some (.int w)], []) σ Q := by
  unfold co_rd at kk
  refine g_clV rfl rfl rfl rfl (hG.at hd.1) rfl rfl rfl ?_
  refine co_has hG hd (fun c hc e => ?_) (fun h0 => ?_)
  rotate_left
  · rw [if_neg (co_out hd.2.2.2.2 h0)] at kk
    refine g_br rfl rfl rfl rfl rfl rfl (fun h => ?_) (fun h => absurd rfl h)
    exact g_rt rfl rfl rfl kk
  subst e
  rw [if_pos (co_in hd.2.2.2.2 hc), nI_clamp (by have := hd.2.2.2.2; omega)] at kk
  obtain ⟨h1, ⟨Z, h2, h2'⟩, ⟨R, h3, h3'⟩, h4, h5⟩ := hd
  obtain ⟨Y, y1, y2, y3⟩ := h4 c hc
  refine g_br rfl rfl rfl rfl rfl rfl (fun h => absurd h (by decide)) (fun h => ?_)
  refine g_br rfl rfl rfl rfl rfl rfl (fun g1 => ?_) (fun g1 => ?_)
  · rw [if_pos (Or.inl g1)] at kk
    exact g_rt rfl rfl rfl kk
  refine g_get rfl rfl rfl (hG.at h1) rfl ?_
  refine gw_ald hG h2 rfl rfl rfl hc (by omega) ?_
  rw [h2' c hc]
  obtain ⟨q, hq, rfl⟩ := nI_of g1
  rw [nI_clamp hq] at kk
  refine g_br rfl rfl rfl rfl rfl rfl (fun g2 => ?_) (fun g2 => ?_)
  · have : (col c).length ≤ q := (nI_leI (by omega) hq).mp g2
    rw [List.getElem?_eq_none this] at kk
    rw [show (if nI q < 0 ∨ w < 0 ∨ 3 ≤ w then (-1 : Int32) else -1) = -1 by split <;> rfl] at kk
    exact g_rt rfl rfl rfl kk
  have hql : q < (col c).length := by
    rcases Nat.lt_or_ge q (col c).length with z | z
    · exact z
    · exact absurd (nI_le z hq) g2
  refine g_br rfl rfl rfl rfl rfl rfl (fun g3 => ?_) (fun g3 => ?_)
  · rw [if_pos (Or.inr (Or.inl g3))] at kk
    exact g_rt rfl rfl rfl kk
  refine g_br rfl rfl rfl rfl rfl rfl (fun g4 => ?_) (fun g4 => ?_)
  rotate_left
  · rw [if_pos (Or.inr (Or.inr (Int32.not_lt.mp g4)))] at kk
    exact g_rt rfl rfl rfl kk
  rw [if_neg (fun z => z.elim g1 (fun z => z.elim g3 (fun z => absurd g4 (Int32.not_lt.mpr z)))), List.getElem?_eq_getElem hql] at kk
  obtain ⟨v, hv, rfl⟩ := nI_of g3
  have hv3 : v < 3 := (nI_ltI (b := 3) hv (by decide)).mp g4
  have hy := y2 q _ (List.getElem?_eq_getElem hql)
  have hyv : Y (3 * q + v) = co_pt (col c)[q] (nI v) := by
    match v, hv3 with
    | 0, _ => exact hy.1
    | 1, _ => exact hy.2.1
    | 2, _ => exact hy.2.2
  refine g_get rfl rfl rfl (hG.at h1) rfl ?_
  refine gw_aald hG h3 rfl rfl rfl hc (by omega) (h3' c hc) ?_
  refine gw_ald hG y1 rfl rfl (by show (3 : Int32) * nI q + nI v = _; rw [show (3 : Int32) * nI q = nI (3 * q) from nI_mul 3 q]; exact nI_add _ _) (show 3 * q + v < ln c by omega) (by omega) ?_
  rw [hyv]
  exact g_rt rfl rfl rfl kk
/-- the columns with an entry more -/
def co_ad (n : Nat) (col : Nat → List co_E) (x : Int32) (e : co_E) : Nat → List co_E := if 0 ≤ x ∧ x < nI n ∧ (col x.toNatClampNeg).length < 2176 then va_up col x.toNatClampNeg (col x.toNatClampNeg ++ [e]) else col
theorem gw_ald' {M : ri_M} {F : ri_F} {pc np tg : Nat} {kv : Int32} {L : List (Option Value)} {r : List Value} (hG : gw_P a D σ) {i n q p : Nat} {j : Int32} {f : Nat → Int32} (hd : D i = some (.inl (.int, n, .inl f))) (hp : a i = p) (hgo : ri_go 99 M F = (pc, L, .int j :: .ref p :: r)) (hf : ri_find pc M.2.2.2.2.2 = some (.iaload, np, tg, kv)) (hj : j = nI q) (hq : q < n) (hn : n < 2 ^ 31) (kk : ev_W d M (np, L, .int (f q) :: r) σ Q) : ev_W d M F σ Q := by
  subst hp
  exact gw_ald hG hd hgo hf hj hq hn kk
theorem gw_aldv {M : ri_M} {F : ri_F} {pc np tg : Nat} {kv : Int32} {L : List (Option Value)} {r : List Value} (hG : gw_P a D σ) {i n q p : Nat} {j y : Int32} {f : Nat → Int32} (hd : D i = some (.inl (.int, n, .inl f))) (hp : a i = p) (hgo : ri_go 99 M F = (pc, L, .int j :: .ref p :: r)) (hf : ri_find pc M.2.2.2.2.2 = some (.iaload, np, tg, kv)) (hj : j = nI q) (hq : q < n) (hn : n < 2 ^ 31) (hy : f q = y) (kk : ev_W d M (np, L, .int y :: r) σ Q) : ev_W d M F σ Q := by
  subst hp
  subst hy
  exact gw_ald hG hd hgo hf hj hq hn kk
theorem gw_ast' {M : ri_M} {F : ri_F} {pc np tg : Nat} {kv : Int32} {L : List (Option Value)} {r : List Value} (hG : gw_P a D σ) {i n q p : Nat} {j x : Int32} {f : Nat → Int32} (hd : D i = some (.inl (.int, n, .inl f))) (hp : a i = p) (hgo : ri_go 99 M F = (pc, L, .int x :: .int j :: .ref p :: r)) (hf : ri_find pc M.2.2.2.2.2 = some (.iastore, np, tg, kv)) (hj : j = nI q) (hq : q < n) (hn : n < 2 ^ 31) (kk : ∀ σ' : ri_S, gw_P a (va_up D i (some (.inl (.int, n, .inl (upd f q x))))) σ' → σ'.2 = σ.2 → ev_W d M (np, L, r) σ' Q) : ev_W d M F σ Q := by
  subst hp
  exact gw_ast hG hd hgo hf hj hq hn kk
theorem gw_aast' {M : ri_M} {F : ri_F} {pc np tg : Nat} {kv : Int32} {L : List (Option Value)} {r : List Value} (hG : gw_P a D σ) {i i2 n n2 q p p2 : Nat} {j : Int32} {f : Nat → Option Nat} {f2 : Nat → Int32} (hd : D i = some (.inl (.array .int, n, .inr (.inr (.inr (.inr f)))))) (hp : a i = p) (hd2 : D i2 = some (.inl (.int, n2, .inl f2))) (hp2 : a i2 = p2) (hgo : ri_go 99 M F = (pc, L, .ref p2 :: .int j :: .ref p :: r)) (hf : ri_find pc M.2.2.2.2.2 = some (.aastore, np, tg, kv)) (hj : j = nI q) (hq : q < n) (hn : n < 2 ^ 31) (kk : ∀ σ' : ri_S, gw_P a (va_up D i (some (.inl (.array .int, n, .inr (.inr (.inr (.inr (va_up f q (some p2))))))))) σ' → σ'.2 = σ.2 → ev_W d M (np, L, r) σ' Q) : ev_W d M F σ Q := by
  subst hp
  subst hp2
  subst hj
  refine g_aast hgo hf (hG.at hd) (hG.at hd2) (nI_in hq hn) ?_
  rw [nI_clamp (by omega)]
  exact kk _ (hG.set hd _) rfl
set_option maxRecDepth 100000 in

/-- add(column, repetition, definition, value) -/
theorem co_add (hG : gw_P a D σ) (hd : co_P a D n col ln) {x re de v : Int32} (kk : ∀ (a' : Nat → Nat) (D' : Nat → Option ri_E) (σ' : ri_S) (ln' : Nat → Nat), gw_P a' D' σ' → co_P a' D' n (co_ad n col x (re, de, v)) ln' → gw_F 9 60 a D a' D' → (∀ i, i < 12 → a' i = a i) → gw_ro (co_su n ln) (co_su n ln') σ σ' → Q none σ') : ev_W (d + 3) mCo_add (0, [some (.ref (a 9)), some (.int x), some (.int re), some (.int de), some (.int v), none, none], []) σ Q := by
  refine g_clV rfl rfl rfl rfl (hG.at hd.1) rfl rfl rfl ?_
  refine co_has hG hd (fun c hc e => ?_) (fun h0 => ?_)
  rotate_left
  · refine g_br rfl rfl rfl rfl rfl rfl (fun h => ?_) (fun h => absurd rfl h)
    refine g_rt rfl rfl rfl (kk a D σ ln hG ?_ gw_F.rf (fun _ _ => rfl) (gw_ro.rf rfl))
    unfold co_ad
    rw [if_neg (fun z => co_out hd.2.2.2.2 h0 ⟨z.1, z.2.1⟩)]
    exact hd
  subst e
  have hd0 := hd
  obtain ⟨h1, ⟨Z, h2, h2'⟩, ⟨R, h3, h3'⟩, h4, h5⟩ := hd
  obtain ⟨Y, y1, y2, y3⟩ := h4 c hc
  refine g_br rfl rfl rfl rfl rfl rfl (fun h => absurd h (by decide)) (fun h => ?_)
  refine g_get rfl rfl rfl (hG.at h1) rfl ?_
  refine gw_ald hG h2 rfl rfl rfl hc (by omega) ?_
  rw [h2' c hc]
  refine g_br rfl rfl rfl rfl rfl rfl (fun g1 => ?_) (fun g1 => ?_)
  rotate_left
  · refine g_rt rfl rfl rfl (kk a D σ ln hG ?_ gw_F.rf (fun _ _ => rfl) (gw_ro.rf rfl))
    unfold co_ad
    rw [if_neg (fun z => g1 ?_)]
    · exact hd0
    · have z2 := z.2.2
      rw [nI_clamp (by omega)] at z2
      exact nI_lt z2 (by decide)
  have hl : (col c).length < 2176 := (nI_ltI (b := 2176) (by omega) (by decide)).mp g1
  have eco : co_ad n col (nI c) (re, de, v) = va_up col c (col c ++ [(re, de, v)]) := by
    unfold co_ad
    rw [nI_clamp (by omega), if_pos ⟨(co_in h5 hc).1, (co_in h5 hc).2, hl⟩]
  rw [eco] at kk
  refine g_get rfl rfl rfl (hG.at h1) rfl ?_
  refine gw_ald hG h2 rfl rfl rfl hc (by omega) ?_
  rw [h2' c hc]
  refine g_get rfl rfl rfl (hG.at h1) rfl ?_
  refine gw_aald hG h3 rfl rfl rfl hc (by omega) (h3' c hc) ?_
  have e3 : (3 : Int32) * nI (col c).length = nI (3 * (col c).length) := nI_mul 3 _
  refine g_clN rfl rfl rfl rfl rfl rfl ?_
  refine st_withRoom hG y1 (by omega) (by omega) (show 3 * (col c).length + 3 ≤ 50000 by omega) (by show (3 : Int32) * nI (col c).length + 3 = _; rw [e3]; exact nI_add _ 3) (fun q n1 f1 σ1 hG1 hf1 hk1 hn1 hl1 ho1 => ?_)
  generalize hs : 3 * (col c).length = s at *
  have a9 : va_up a (12 + c) q 9 = a 9 := va_up_n (by omega)
  have a10 : va_up a (12 + c) q 10 = a 10 := va_up_n (by omega)
  have a11 : va_up a (12 + c) q 11 = a 11 := va_up_n (by omega)
  have aq : va_up a (12 + c) q (12 + c) = q := va_up_s
  refine gw_ast' hG1 (i := 12 + c) va_up_s aq rfl rfl (by show (3 : Int32) * nI (col c).length + 0 = _; rw [e3]; exact nI_add s 0) (show s + 0 < n1 by omega) (by omega) (fun σ2 hG2 e2 => ?_)
  refine gw_ast' hG2 (i := 12 + c) va_up_s aq rfl rfl (by show (3 : Int32) * nI (col c).length + 1 = _; rw [e3]; exact nI_add s 1) (show s + 1 < n1 by omega) (by omega) (fun σ3 hG3 e4 => ?_)
  refine gw_ast' hG3 (i := 12 + c) va_up_s aq rfl rfl (by show (3 : Int32) * nI (col c).length + 2 = _; rw [e3]; exact nI_add s 2) (show s + 2 < n1 by omega) (by omega) (fun σ4 hG4 e5 => ?_)
  rw [bx_uu, bx_uu, bx_uu] at hG4
  have d9 : σ4.1 (a 9) = some (.inr (0, [.ref (a 10), .ref (a 11)])) := by
    rw [← a9]; exact hG4.at ((va_up_n (by omega)).trans h1)
  refine g_get rfl rfl rfl d9 rfl ?_
  refine gw_aast' hG4 (i := 11) (i2 := 12 + c) ((va_up_n (by omega)).trans h3) a11 va_up_s aq rfl rfl rfl hc (by omega) (fun σ5 hG5 e7 => ?_)
  show ev_W (d + 3) mCo_add (79, [some (.ref (a 9)), some (.int (nI c)), some (.int re), some (.int de), some (.int v), some (.int (3 * nI (col c).length)), some (.ref q)], []) σ5 Q
  have d9' := hG5.at (i := 9) ((va_up_n (by decide)).trans ((va_up_n (by omega)).trans h1))
  rw [a9] at d9'
  refine g_get rfl rfl rfl d9' rfl ?_
  refine gw_aldv hG5 (i := 10) ((va_up_n (by decide)).trans ((va_up_n (by omega)).trans h2)) a10 rfl rfl rfl hc (by omega) (h2' c hc) ?_
  refine gw_ast' hG5 (i := 10) ((va_up_n (by decide)).trans ((va_up_n (by omega)).trans h2)) a10 rfl rfl rfl hc (by omega) (fun σ6 hG6 e6 => ?_)
  rw [nI_1] at hG6
  refine g_rt rfl rfl rfl (kk _ _ σ6 (va_up ln c n1) hG6 ⟨?_, ⟨_, va_up_s, fun c' hc' => ?_⟩, ⟨_, (va_up_n (by decide)).trans va_up_s, fun c' hc' => ?_⟩, fun c' hc' => ?_, h5⟩ (fun j hj => ⟨?_, ?_⟩) (fun j hj => va_up_n (by omega)) ?_)
  · rw [a10, a11]
    exact (va_up_n (by decide)).trans ((va_up_n (by decide)).trans ((va_up_n (by omega)).trans h1))
  · by_cases z : c' = c
    · rw [z, va_up_s]
      exact (if_pos rfl).trans (by rw [List.length_append]; rfl)
    · rw [va_up_n z]
      exact (if_neg z).trans (h2' c' hc')
  · by_cases z : c' = c
    · rw [z, va_up_s, va_up_s]
    · rw [va_up_n z, va_up_n (by omega)]
      exact h3' c' hc'
  · by_cases z : c' = c
    · rw [z, va_up_s, va_up_s]
      refine ⟨_, (va_up_n (by omega)).trans ((va_up_n (by omega)).trans va_up_s), fun j e he => ?_, ?_⟩
      · rcases Nat.lt_trichotomy j (col c).length with y | y | y
        · rw [List.getElem?_append_left y] at he
          obtain ⟨w1, w2, w3⟩ := y2 j e he
          refine ⟨?_, ?_, ?_⟩
          · exact (if_neg (by omega)).trans ((if_neg (by omega)).trans ((if_neg (by omega)).trans ((hf1 _ (by omega)).trans w1)))
          · exact (if_neg (by omega)).trans ((if_neg (by omega)).trans ((if_neg (by omega)).trans ((hf1 _ (by omega)).trans w2)))
          · exact (if_neg (by omega)).trans ((if_neg (by omega)).trans ((if_neg (by omega)).trans ((hf1 _ (by omega)).trans w3)))
        · rw [y, List.getElem?_append_right (Nat.le_refl _), Nat.sub_self] at he
          cases he
          rw [y, hs]
          refine ⟨?_, ?_, ?_⟩
          · exact (if_neg (by omega)).trans ((if_neg (by omega)).trans (if_pos rfl))
          · exact (if_neg (by omega)).trans (if_pos rfl)
          · exact if_pos rfl
        · rw [List.getElem?_eq_none (by rw [List.length_append]; show (col c).length + 1 ≤ j; omega)] at he
          cases he
      · rw [List.length_append]
        show 3 * ((col c).length + 1) ≤ n1 ∧ 24 ≤ n1 ∧ n1 ≤ 13056 ∧ (col c).length + 1 ≤ 2176
        omega
    · rw [va_up_n z, va_up_n z]
      obtain ⟨Y', w1, w2⟩ := h4 c' hc'
      exact ⟨Y', (va_up_n (by omega)).trans ((va_up_n (by omega)).trans ((va_up_n (by omega)).trans w1)), w2⟩
  · exact (va_up_n (by omega)).trans ((va_up_n (by omega)).trans (va_up_n (by omega)))
  · exact va_up_n (by omega)
  · have e : σ6.2 = σ1.2 := e6.trans (e7.trans (e5.trans (e4.trans e2)))
    have hsu := co_su_up (f := ln) (c := c) (x := n1) n hc
    unfold gw_ro at *
    rw [e]
    omega
/-- where record r begins among the entries from index k on, b records before -/
def co_st (r : Int32) : List co_E → Nat → Int32 → Nat
  | [], k, _ => k
  | e :: t, k, b => if e.1 = 0 then (if b = r then k else co_st r t (k + 1) (b + 1)) else co_st r t (k + 1) b
def co_from (n : Nat) (col : Nat → List co_E) (x r : Int32) : Int32 := if 0 ≤ x ∧ x < nI n then nI (co_st r (col x.toNatClampNeg) 0 0) else -1
set_option maxRecDepth 100000 in
theorem co_startOf_loop (hG : gw_P a D σ) (hd : co_P a D n col ln) {c : Nat} {r : Int32} (hc : c < n) (kk : Q (some (.int (nI (co_st r (col c) 0 0)))) σ) : ∀ (t k : Nat) (b : Int32), k + t = (col c).length → co_st r ((col c).drop k) k b = co_st r (col c) 0 0 → ev_W (d + 2) mCo_startOf (12, [some (.ref (a 9)), some (.int (nI c)), some (.int r), some (.int (nI (col c).length)), some (.int b), some (.int (nI k))], []) σ Q := by
  have hb : (col c).length ≤ 2176 := by
    obtain ⟨_, _, _, z⟩ := hd.2.2.2.1 c hc
    exact z.2.2.2
  intro t
  induction t with
  | zero =>
    intro k b hk he
    obtain rfl : k = (col c).length := by omega
    refine g_br rfl rfl rfl rfl rfl rfl (fun h => ?_) (fun h => absurd (nI_le (Nat.le_refl _) (by omega)) h)
    rw [List.drop_length] at he
    refine g_rt rfl rfl rfl ?_
    rw [← he] at kk
    exact kk
  | succ t ih =>
    intro k b hk he
    have hkl : k < (col c).length := by omega
    rw [List.drop_eq_getElem_cons hkl] at he
    refine g_br rfl rfl rfl rfl rfl rfl (fun h => absurd h (nI_ge hkl (by omega))) (fun h => ?_)
    refine g_clV rfl rfl rfl rfl (hG.at hd.1) rfl rfl rfl ?_
    refine co_read hG hd ?_
    have e0 : co_rd n col (nI c) (nI k) 0 = ((col c)[k]).1 := by
      unfold co_rd
      rw [if_pos (co_in hd.2.2.2.2 hc), nI_clamp (by have := hd.2.2.2.2; omega), nI_clamp (by omega), if_neg (fun z => z.elim (nI_pos (by omega)) (fun z => absurd z (by decide))), List.getElem?_eq_getElem hkl]
      exact if_pos rfl
    rw [e0]
    have eS : co_st r ((col c)[k] :: (col c).drop (k + 1)) k b = if ((col c)[k]).1 = 0 then (if b = r then k else co_st r ((col c).drop (k + 1)) (k + 1) (b + 1)) else co_st r ((col c).drop (k + 1)) (k + 1) b := rfl
    rw [eS] at he
    refine g_br rfl rfl rfl rfl rfl rfl (fun g1 => ?_) (fun g1 => ?_)
    · rw [if_pos g1] at he
      refine g_br rfl rfl rfl rfl rfl rfl (fun g2 => ?_) (fun g2 => ?_)
      · rw [if_pos g2] at he
        refine g_rt rfl rfl rfl ?_
        rw [← he] at kk
        exact kk
      · rw [if_neg g2] at he
        refine ev_go 3 rfl ?_
        show ev_W (d + 2) mCo_startOf (12, [some (.ref (a 9)), some (.int (nI c)), some (.int r), some (.int (nI (col c).length)), some (.int (b + 1)), some (.int (nI k + 1))], []) σ Q
        rw [nI_1]
        exact ih (k + 1) (b + 1) (by omega) he
    · rw [if_neg g1] at he
      refine ev_go 2 rfl ?_
      show ev_W (d + 2) mCo_startOf (12, [some (.ref (a 9)), some (.int (nI c)), some (.int r), some (.int (nI (col c).length)), some (.int b), some (.int (nI k + 1))], []) σ Q
      rw [nI_1]
      exact ih (k + 1) b (by omega) he
set_option maxRecDepth 100000 in
/-- startOf(column, record) -/
theorem co_startOf (hG : gw_P a D σ) (hd : co_P a D n col ln) {x r : Int32} (kk : Q (some (.int (co_from n col x r))) σ) : ev_W (d + 2) mCo_startOf (0, [some (.ref (a 9)), some (.int x), some (.int r), none, none, none], []) σ Q := by
  refine g_clV rfl rfl rfl rfl (hG.at hd.1) rfl rfl rfl ?_
  refine co_sizeOf hG hd ?_
  unfold co_sz
  unfold co_from at kk
  by_cases z : 0 ≤ x ∧ x < nI n
  · rw [if_pos z] at kk
    rw [if_pos z]
    obtain ⟨c, hc, rfl⟩ := nI_of (Int32.not_lt.mpr z.1)
    have hcn : c < n := (nI_ltI hc (by have := hd.2.2.2.2; omega)).mp z.2
    rw [nI_clamp hc] at kk ⊢
    refine ev_go 5 rfl ?_
    exact co_startOf_loop hG hd hcn kk (col c).length 0 0 (by omega) rfl
  · rw [if_neg z] at kk
    rw [if_neg z]
    refine ev_go 5 rfl ?_
    refine g_br rfl rfl rfl rfl rfl rfl (fun h => ?_) (fun h => absurd (by decide) h)
    exact g_rt rfl rfl rfl kk
end CO
end
section
/-! SCHEMA: add, its making, its roles (60 .. 68); the reference's roles (70 .. 83). -/
def sc_of (A : Nat → Nat → Int32) (k : Nat) (p : Int32) : Int32 := if p = -1 then 0 else A k p.toNatClampNeg
def sc_bit (lv : Nat) : Int64 := lN 1 <<< ((nI lv).toInt64 &&& 63)
/-- the rows with field n more, ends and sets aside -/
def sc_A1 (A : Nat → Nat → Int32) (n lv : Nat) (p kd gb : Int32) : Nat → Nat → Int32 := va_up (va_up (va_up (va_up (va_up (va_up A 0 (upd (A 0) n p)) 1 (upd (A 1) n kd)) 2 (upd (A 2) n (sc_of A 2 p + 1))) 3 (upd (A 3) n (sc_of A 3 p + if kd = 2 then 1 else 0))) 4 (upd (A 4) n (sc_of A 4 p + if kd = 0 then 0 else 1))) 5 (upd (A 5) n (if gb = 0 then nI lv else -1))
def sc_st1 (A : Nat → Nat → Int32) (S : Nat → Int64) (n lv : Nat) (p gb : Int32) : (Nat → Int32) × (Nat → Int64) := sc_st (upd (A 0) n p) (nI n + 1) (if gb = 0 then sc_bit lv else 0) 16 (nI n) (A 6, S)
section SC2
variable {d o n lv : Nat} {A : Nat → Nat → Int32} {S : Nat → Int64} {I : Nat → Int32} {σ0 σ : ri_S} {Q : Option Value → ri_S → Prop} {p kd gb : Int32}
set_option maxRecDepth 100000 in
theorem sc_add_e (hW : sc_W o A S I σ0 σ) (hl : I 9 = nI lv) (kk : ∀ σ' : ri_S, sc_W o A S (if gb = 0 then va_up I 9 (nI (lv + 1)) else I) σ0 σ' → Q (some (.int (nI n))) σ') : ev_W d mSc_add (167, [some (.ref o), some (.int p), some (.int kd), some (.int gb), some (.int (nI n))], []) σ Q := by
  refine g_br rfl rfl rfl rfl rfl rfl (fun h => ?_) (fun h => ?_)
  · rw [if_pos h] at kk
    refine g_get rfl rfl rfl hW.1.1 rfl ?_
    refine sc_num hW rfl rfl rfl rfl rfl rfl rfl (fun σ1 hW1 => ?_)
    rw [hl, nI_1] at hW1
    exact g_rt rfl rfl rfl (kk σ1 hW1)
  · rw [if_neg h] at kk
    exact g_rt rfl rfl rfl (kk σ hW)
theorem sc_up_ext {par : Nat → Int32} (hup : mo_up par n) (hp : p = -1 ∨ ∃ w, w < n ∧ p = nI w) : mo_up (upd par n p) (n + 1) := by
  intro f hf
  unfold upd
  by_cases z : f = n
  · rw [if_pos z]
    rcases hp with q | ⟨w, hw, q⟩
    · exact Or.inl q
    · exact Or.inr ⟨w, by omega, q⟩
  · rw [if_neg z]
    exact hup f (by omega)
set_option maxRecDepth 100000 in
theorem sc_add_d (hW : sc_W o A S I σ0 σ) (hI : I 8 = nI n) (hn : n < 48) (hl : I 9 = nI lv) (hup : mo_up (A 0) (n + 1)) (kk : ∀ σ' : ri_S, sc_W o (va_up A 6 (sc_st (A 0) (nI n + 1) (if gb = 0 then sc_bit lv else 0) 16 (nI n) (A 6, S)).1) (sc_st (A 0) (nI n + 1) (if gb = 0 then sc_bit lv else 0) 16 (nI n) (A 6, S)).2 (if gb = 0 then va_up (va_up I 8 (nI (n + 1))) 9 (nI (lv + 1)) else va_up I 8 (nI (n + 1))) σ0 σ' → Q (some (.int (nI n))) σ') : ev_W (d + 2) mSc_add (137, [some (.ref o), some (.int p), some (.int kd), some (.int gb), some (.int (nI n))], []) σ Q := by
  refine g_get rfl rfl rfl hW.1.1 rfl ?_
  refine sc_num hW rfl rfl rfl rfl rfl rfl rfl (fun σ1 hW1 => ?_)
  rw [hI, nI_1] at hW1
  have hl1 : va_up I 8 (nI (n + 1)) 9 = nI lv := hl
  have rest : ∀ x : Int64, x = (if gb = 0 then sc_bit lv else 0) → ev_W (d + 2) mSc_add (164, [some (.ref o), some (.int p), some (.int kd), some (.int gb), some (.int (nI n))], [.long x, .int (nI n), .ref o]) σ1 Q := by
    intro x hx
    subst hx
    refine g_clV rfl rfl rfl rfl hW1.1.1 rfl rfl rfl ?_
    refine sc_stretch (n := n + 1) (w := n) (by omega) hup rfl rfl (by omega) hW1 (fun σ2 hW2 => ?_)
    exact sc_add_e hW2 hl1 kk
  refine g_br rfl rfl rfl rfl rfl rfl (fun h => ?_) (fun h => ?_)
  · refine g_get rfl rfl rfl hW1.1.1 rfl ?_
    refine ev_go 1 rfl ?_
    refine rest _ ?_
    rw [if_pos h]
    show lN 1 <<< ((I 9).toInt64 &&& 63) = _
    rw [hl]
    rfl
  · refine ev_go 2 rfl ?_
    refine rest _ ?_
    rw [if_neg h]
    rfl
set_option maxRecDepth 100000 in
theorem sc_add_c (hW : sc_W o A S I σ0 σ) (hI : I 8 = nI n) (hn : n < 48) (hl : I 9 = nI lv) (hup : mo_up (A 0) (n + 1)) (kk : ∀ σ' : ri_S, sc_W o (va_up (va_up A 5 (upd (A 5) n (if gb = 0 then nI lv else -1))) 6 (sc_st (A 0) (nI n + 1) (if gb = 0 then sc_bit lv else 0) 16 (nI n) (A 6, S)).1) (sc_st (A 0) (nI n + 1) (if gb = 0 then sc_bit lv else 0) 16 (nI n) (A 6, S)).2 (if gb = 0 then va_up (va_up I 8 (nI (n + 1))) 9 (nI (lv + 1)) else va_up I 8 (nI (n + 1))) σ0 σ' → Q (some (.int (nI n))) σ') : ev_W (d + 2) mSc_add (118, [some (.ref o), some (.int p), some (.int kd), some (.int gb), some (.int (nI n))], []) σ Q := by
  refine g_get rfl rfl rfl hW.1.1 rfl ?_
  have rest : ∀ x : Int32, x = (if gb = 0 then nI lv else -1) → ev_W (d + 2) mSc_add (136, [some (.ref o), some (.int p), some (.int kd), some (.int gb), some (.int (nI n))], [.int x, .int (nI n), .ref (o + 6)]) σ Q := by
    intro x hx
    subst hx
    refine sc_ast hW 5 rfl rfl rfl rfl hn (by decide) (fun σ1 hW1 => ?_)
    exact sc_add_d hW1 hI hn hl hup kk
  refine g_br rfl rfl rfl rfl rfl rfl (fun h => ?_) (fun h => ?_)
  · refine g_get rfl rfl rfl hW.1.1 rfl ?_
    refine rest _ ?_
    rw [if_pos h]
    exact hl
  · refine ev_go 2 rfl ?_
    refine rest _ ?_
    rw [if_neg h]
set_option maxRecDepth 100000 in
theorem sc_add_b (hW : sc_W o A S I σ0 σ) (hI : I 8 = nI n) (hn : n < 48) (hl : I 9 = nI lv) (hup : mo_up (A 0) (n + 1)) (hp : p = -1 ∨ ∃ w, w < n ∧ p = nI w) (kk : ∀ σ' : ri_S, sc_W o (va_up (va_up (va_up A 4 (upd (A 4) n (sc_of A 4 p + if kd = 0 then 0 else 1))) 5 (upd (A 5) n (if gb = 0 then nI lv else -1))) 6 (sc_st (A 0) (nI n + 1) (if gb = 0 then sc_bit lv else 0) 16 (nI n) (A 6, S)).1) (sc_st (A 0) (nI n + 1) (if gb = 0 then sc_bit lv else 0) 16 (nI n) (A 6, S)).2 (if gb = 0 then va_up (va_up I 8 (nI (n + 1))) 9 (nI (lv + 1)) else va_up I 8 (nI (n + 1))) σ0 σ' → Q (some (.int (nI n))) σ') : ev_W (d + 3) mSc_add (96, [some (.ref o), some (.int p), some (.int kd), some (.int gb), some (.int (nI n))], []) σ Q := by
  refine g_get rfl rfl rfl hW.1.1 rfl ?_
  refine g_clV rfl rfl rfl rfl hW.1.1 rfl rfl rfl ?_
  have rest : ∀ v : Int32, v = sc_of A 4 p → ev_W (d + 3) mSc_add (107, [some (.ref o), some (.int p), some (.int kd), some (.int gb), some (.int (nI n))], [.int v, .int (nI n), .ref (o + 5)]) σ Q := by
    intro v hv
    subst hv
    have r2 : ∀ x : Int32, x = (if kd = 0 then 0 else 1) → ev_W (d + 3) mSc_add (116, [some (.ref o), some (.int p), some (.int kd), some (.int gb), some (.int (nI n))], [.int x, .int (sc_of A 4 p), .int (nI n), .ref (o + 5)]) σ Q := by
      intro x hx
      subst hx
      refine sc_ast hW 4 rfl rfl rfl rfl hn (by decide) (fun σ1 hW1 => ?_)
      exact sc_add_c hW1 hI hn hl hup kk
    refine g_br rfl rfl rfl rfl rfl rfl (fun h => ?_) (fun h => ?_)
    · refine ev_go 2 rfl ?_
      exact r2 _ (by rw [if_pos h])
    · refine ev_go 1 rfl ?_
      exact r2 _ (by rw [if_neg h])
  refine sc_definitionOf hW.1 hI (by omega) (fun w hw e => ?_) (fun h0 => ?_)
  · refine rest _ ?_
    unfold sc_of
    rw [e, if_neg (nI_nm1 (by omega)), nI_clamp (by omega)]
  · refine rest _ ?_
    unfold sc_of
    rw [if_pos (hp.resolve_right (fun ⟨w, hw, e⟩ => h0 w hw e))]
set_option maxRecDepth 100000 in
theorem sc_add_a (hW : sc_W o A S I σ0 σ) (hI : I 8 = nI n) (hn : n < 48) (hl : I 9 = nI lv) (hup : mo_up (A 0) (n + 1)) (hp : p = -1 ∨ ∃ w, w < n ∧ p = nI w) (kk : ∀ σ' : ri_S, sc_W o (va_up (va_up (va_up (va_up A 3 (upd (A 3) n (sc_of A 3 p + if kd = 2 then 1 else 0))) 4 (upd (A 4) n (sc_of A 4 p + if kd = 0 then 0 else 1))) 5 (upd (A 5) n (if gb = 0 then nI lv else -1))) 6 (sc_st (A 0) (nI n + 1) (if gb = 0 then sc_bit lv else 0) 16 (nI n) (A 6, S)).1) (sc_st (A 0) (nI n + 1) (if gb = 0 then sc_bit lv else 0) 16 (nI n) (A 6, S)).2 (if gb = 0 then va_up (va_up I 8 (nI (n + 1))) 9 (nI (lv + 1)) else va_up I 8 (nI (n + 1))) σ0 σ' → Q (some (.int (nI n))) σ') : ev_W (d + 3) mSc_add (73, [some (.ref o), some (.int p), some (.int kd), some (.int gb), some (.int (nI n))], []) σ Q := by
  refine g_get rfl rfl rfl hW.1.1 rfl ?_
  refine g_clV rfl rfl rfl rfl hW.1.1 rfl rfl rfl ?_
  have rest : ∀ v : Int32, v = sc_of A 3 p → ev_W (d + 3) mSc_add (84, [some (.ref o), some (.int p), some (.int kd), some (.int gb), some (.int (nI n))], [.int v, .int (nI n), .ref (o + 4)]) σ Q := by
    intro v hv
    subst hv
    have r2 : ∀ x : Int32, x = (if kd = 2 then 1 else 0) → ev_W (d + 3) mSc_add (94, [some (.ref o), some (.int p), some (.int kd), some (.int gb), some (.int (nI n))], [.int x, .int (sc_of A 3 p), .int (nI n), .ref (o + 4)]) σ Q := by
      intro x hx
      subst hx
      refine sc_ast hW 3 rfl rfl rfl rfl hn (by decide) (fun σ1 hW1 => ?_)
      exact sc_add_b hW1 hI hn hl hup hp kk
    refine g_br rfl rfl rfl rfl rfl rfl (fun h => ?_) (fun h => ?_)
    · refine ev_go 2 rfl ?_
      exact r2 _ (by rw [if_pos h])
    · refine ev_go 1 rfl ?_
      exact r2 _ (by rw [if_neg h])
  refine sc_repetitionOf hW.1 hI (by omega) (fun w hw e => ?_) (fun h0 => ?_)
  · refine rest _ ?_
    unfold sc_of
    rw [e, if_neg (nI_nm1 (by omega)), nI_clamp (by omega)]
  · refine rest _ ?_
    unfold sc_of
    rw [if_pos (hp.resolve_right (fun ⟨w, hw, e⟩ => h0 w hw e))]
/-- a field is taken -/
def sc_yes (A : Nat → Nat → Int32) (I : Nat → Int32) (n : Nat) (p kd : Int32) : Prop := I 10 = 0 ∧ n < 48 ∧ ¬ kd < 0 ∧ kd ≤ 2 ∧ sc_may A n p
set_option maxRecDepth 100000 in
/-- add(parent, kind, group) -/
theorem sc_add (hW : sc_W o A S I σ0 σ) (hI : I 8 = nI n) (hn : n ≤ 48) (hl : I 9 = nI lv) (hup : mo_up (A 0) n) (kno : ¬ sc_yes A I n p kd → Q (some (.int (-1))) σ) (kyes : sc_yes A I n p kd → ∀ σ' : ri_S, sc_W o (va_up (sc_A1 A n lv p kd gb) 6 (sc_st1 A S n lv p gb).1) (sc_st1 A S n lv p gb).2 (if gb = 0 then va_up (va_up I 8 (nI (n + 1))) 9 (nI (lv + 1)) else va_up I 8 (nI (n + 1))) σ0 σ' → Q (some (.int (nI n))) σ') : ev_W (d + 3) mSc_add (0, [some (.ref o), some (.int p), some (.int kd), some (.int gb), none], []) σ Q := by
  refine g_get rfl rfl rfl hW.1.1 rfl ?_
  refine g_br rfl rfl rfl rfl rfl rfl (fun g1 => ?_) (fun g1 => ?_)
  rotate_left
  · exact g_rt rfl rfl rfl (kno (fun z => g1 z.1))
  refine g_get rfl rfl rfl hW.1.1 rfl ?_
  refine g_br rfl rfl rfl rfl rfl rfl (fun g2 => ?_) (fun g2 => ?_)
  · refine g_rt rfl rfl rfl (kno (fun z => ?_))
    rw [hI] at g2
    have := (nI_leI (a := 48) (by decide) (by omega)).mp g2
    have := z.2.1
    omega
  have hn48 : n < 48 := by
    rcases Nat.lt_or_ge n 48 with z | z
    · exact z
    · exact absurd (by rw [hI]; exact nI_le (a := 48) z (by omega)) g2
  refine g_br rfl rfl rfl rfl rfl rfl (fun g3 => ?_) (fun g3 => ?_)
  · exact g_rt rfl rfl rfl (kno (fun z => z.2.2.1 g3))
  refine g_br rfl rfl rfl rfl rfl rfl (fun g4 => ?_) (fun g4 => ?_)
  rotate_left
  · exact g_rt rfl rfl rfl (kno (fun z => g4 z.2.2.2.1))
  refine g_clV rfl rfl rfl rfl hW.1.1 rfl rfl rfl ?_
  refine sc_mayHold hW.1 hI hn (fun g5 => ?_) (fun g5 => ?_)
  rotate_left
  · refine g_br rfl rfl rfl rfl rfl rfl (fun _ => ?_) (fun h => absurd rfl h)
    exact g_rt rfl rfl rfl (kno (fun z => g5 z.2.2.2.2))
  refine g_br rfl rfl rfl rfl rfl rfl (fun h => absurd h (by decide)) (fun _ => ?_)
  have kk := kyes ⟨g1, hn48, g3, g4, g5⟩
  have hp : p = -1 ∨ ∃ w, w < n ∧ p = nI w := by
    rcases g5 with z | ⟨w, hw, e, -⟩
    · exact Or.inl z
    · exact Or.inr ⟨w, hw, e⟩
  refine g_get rfl rfl rfl hW.1.1 rfl ?_
  rw [hI]
  refine g_get rfl rfl rfl hW.1.1 rfl ?_
  refine sc_ast hW 0 rfl rfl rfl rfl hn48 (by decide) (fun σ1 hW1 => ?_)
  refine g_get rfl rfl rfl hW1.1.1 rfl ?_
  refine sc_ast hW1 1 rfl rfl rfl rfl hn48 (by decide) (fun σ2 hW2 => ?_)
  refine g_get rfl rfl rfl hW2.1.1 rfl ?_
  refine g_clV rfl rfl rfl rfl hW2.1.1 rfl rfl rfl ?_
  have rest : ∀ v : Int32, v = sc_of A 2 p → ev_W (d + 3) mSc_add (70, [some (.ref o), some (.int p), some (.int kd), some (.int gb), some (.int (nI n))], [.int v, .int (nI n), .ref (o + 3)]) σ2 Q := by
    intro v hv
    subst hv
    refine sc_ast hW2 2 rfl rfl rfl rfl hn48 (by decide) (fun σ3 hW3 => ?_)
    exact sc_add_a hW3 hI hn48 hl (sc_up_ext hup hp) hp kk
  refine sc_depthOf hW2.1 hI hn (fun w hw e => ?_) (fun h0 => ?_)
  · refine rest _ ?_
    unfold sc_of
    rw [e, if_neg (nI_nm1 (by omega)), nI_clamp (by omega)]
    rfl
  · refine rest _ ?_
    unfold sc_of
    rw [if_pos (hp.resolve_right (fun ⟨w, hw, e⟩ => h0 w hw e))]
end SC2
/-! The roles of Schema and of the reference. -/
def sh_P (a : Nat → Nat) (D : Nat → Option ri_E) (A : Nat → Nat → Int32) (S : Nat → Int64) (I : Nat → Int32) : Prop := (∀ k, k < 9 → a (60 + k) = a 60 + k) ∧ D 60 = some (.inr (3, sc_fs (a 60) I)) ∧ (∀ k, k < 7 → D (61 + k) = some (.inl (.int, 48, .inl (A k)))) ∧ D 68 = some (.inl (.long, 48, .inr (.inl S)))
def mh_P (a : Nat → Nat) (D : Nat → Option ri_E) (A : Nat → Nat → Int32) (I : Nat → Int32) : Prop := (∀ k, k < 14 → a (70 + k) = a 70 + k) ∧ D 70 = some (.inr (5, mo_fs (a 70) I)) ∧ ∀ k, k < 13 → D (71 + k) = some (.inl (mo_ty k, mo_len k, .inl (A k)))
section SH
variable {a a' : Nat → Nat} {D D' : Nat → Option ri_E} {A A' : Nat → Nat → Int32} {S S' : Nat → Int64} {I I' : Nat → Int32} {σ σ' : ri_S}
theorem sh_P.a1 (h : sh_P a D A S I) {k : Nat} (hk : k < 8) : a (61 + k) = a 60 + 1 + k := by
  have := h.1 (k + 1) (by omega)
  rw [show 60 + (k + 1) = 61 + k by omega] at this
  omega
theorem mh_P.a1 (h : mh_P a D A I) {k : Nat} (hk : k < 13) : a (71 + k) = a 70 + 1 + k := by
  have := h.1 (k + 1) (by omega)
  rw [show 70 + (k + 1) = 71 + k by omega] at this
  omega
theorem sh_P.sc (hG : gw_P a D σ) (h : sh_P a D A S I) : sc_P (a 60) A S I σ.1 := by
  refine ⟨hG.at h.2.1, fun k hk => ?_, ?_⟩
  · rw [← h.a1 (show k < 8 by omega)]
    exact hG.at (h.2.2.1 k hk)
  · rw [← h.1 8 (by decide)]
    exact hG.at h.2.2.2
theorem mh_P.mo (hG : gw_P a D σ) (h : mh_P a D A I) : mo_P (a 70) A I σ.1 := by
  refine ⟨hG.at h.2.1, fun k hk => ?_⟩
  rw [← h.a1 hk]
  exact hG.at (h.2.2 k hk)
theorem sh_P.us (h : sh_P a D A S I) {i : Nat} (h1 : 60 ≤ i) (h2 : i < 69) : D i ≠ none := by
  by_cases z : i = 60
  · rw [z, h.2.1]; exact gw_sn
  by_cases z2 : i = 68
  · rw [z2, h.2.2.2]; exact gw_sn
  rw [show i = 61 + (i - 61) by omega, h.2.2.1 (i - 61) (by omega)]
  exact gw_sn
theorem mh_P.us (h : mh_P a D A I) {i : Nat} (h1 : 70 ≤ i) (h2 : i < 84) : D i ≠ none := by
  by_cases z : i = 70
  · rw [z, h.2.1]; exact gw_sn
  rw [show i = 71 + (i - 71) by omega, h.2.2 (i - 71) (by omega)]
  exact gw_sn
theorem sh_P.fr (h : sh_P a D A S I) (hF : ∀ i, 60 ≤ i → i < 69 → D' i = D i ∧ a' i = a i) : sh_P a' D' A S I := by
  obtain ⟨h1, h2, h3, h4⟩ := h
  have e := (hF 60 (by decide) (by decide)).2
  refine ⟨fun k hk => ?_, ?_, fun k hk => ?_, ?_⟩
  · rw [(hF (60 + k) (by omega) (by omega)).2, e]; exact h1 k hk
  · rw [(hF 60 (by decide) (by decide)).1, e]; exact h2
  · rw [(hF (61 + k) (by omega) (by omega)).1]; exact h3 k hk
  · rw [(hF 68 (by decide) (by decide)).1]; exact h4
theorem mh_P.fr (h : mh_P a D A I) (hF : ∀ i, 70 ≤ i → i < 84 → D' i = D i ∧ a' i = a i) : mh_P a' D' A I := by
  obtain ⟨h1, h2, h3⟩ := h
  have e := (hF 70 (by decide) (by decide)).2
  refine ⟨fun k hk => ?_, ?_, fun k hk => ?_⟩
  · rw [(hF (70 + k) (by omega) (by omega)).2, e]; exact h1 k hk
  · rw [(hF 70 (by decide) (by decide)).1, e]; exact h2
  · rw [(hF (71 + k) (by omega) (by omega)).1]; exact h3 k hk
/-- a change of Schema's cells -/
theorem sh_P.up (hG : gw_P a D σ) (h : sh_P a D A S I) (hW : sc_W (a 60) A' S' I' σ σ') : ∃ D', gw_P a D' σ' ∧ sh_P a D' A' S' I' ∧ gw_F 60 69 a D a D' ∧ σ'.2 = σ.2 := by
  obtain ⟨w1, w2, w3⟩ := hW
  refine ⟨fun i => if i = 60 then some (.inr (3, sc_fs (a 60) I')) else if i = 68 then some (.inl (.long, 48, .inr (.inl S'))) else if 61 ≤ i ∧ i < 68 then some (.inl (.int, 48, .inl (A' (i - 61)))) else D i, ?_, ?_, ?_, w3⟩
  · refine hG.sub (fun i e he => ?_) (fun i hi => ?_)
    · by_cases z : i = 60
      · rw [if_pos z] at he
        cases he
        rw [z, w3]
        exact ⟨hG.lt h.2.1, w1.1⟩
      rw [if_neg z] at he
      by_cases z2 : i = 68
      · rw [if_pos z2] at he
        cases he
        rw [z2, w3]
        refine ⟨hG.lt h.2.2.2, ?_⟩
        rw [h.1 8 (by decide)]
        exact w1.2.2
      rw [if_neg z2] at he
      by_cases z3 : 61 ≤ i ∧ i < 68
      · rw [if_pos z3] at he
        cases he
        have hk := h.2.2.1 (i - 61) (by omega)
        have ha := h.a1 (k := i - 61) (by omega)
        rw [show 61 + (i - 61) = i by omega] at hk ha
        refine ⟨by rw [w3]; exact hG.lt hk, ?_⟩
        rw [ha]
        exact w1.2.1 (i - 61) (by omega)
      · rw [if_neg z3] at he
        refine ⟨by rw [w3]; exact hG.lt he, ?_⟩
        rw [w2 (a i) ?_]
        · exact hG.at he
        · rcases Nat.lt_or_ge (a i) (a 60) with y | y
          · exact Or.inl y
          rcases Nat.lt_or_ge (a i) (a 60 + 9) with y2 | y2
          · exfalso
            have hk := h.1 (a i - a 60) (by omega)
            have := hG.1 i (60 + (a i - a 60)) (by rw [he]; exact gw_sn) (h.us (by omega) (by omega)) (by omega)
            omega
          · exact Or.inr y2
    · by_cases z : 60 ≤ i ∧ i < 69
      · exact h.us z.1 z.2
      · rw [if_neg (by omega), if_neg (by omega), if_neg (by omega)] at hi
        exact hi
  · refine ⟨h.1, if_pos rfl, fun k hk => ?_, ?_⟩
    · show (if 61 + k = 60 then _ else if 61 + k = 68 then _ else if 61 ≤ 61 + k ∧ 61 + k < 68 then _ else _) = _
      rw [if_neg (by omega), if_neg (by omega), if_pos ⟨by omega, by omega⟩, Nat.add_sub_cancel_left]
    · exact (if_neg (by decide)).trans (if_pos rfl)
  · intro i hi
    exact ⟨(if_neg (by omega)).trans ((if_neg (by omega)).trans (if_neg (by omega))), rfl⟩
/-- a change of the reference's cells -/
theorem mh_P.up (hG : gw_P a D σ) (h : mh_P a D A I) (hW : mo_W (a 70) A' I' σ σ') : ∃ D', gw_P a D' σ' ∧ mh_P a D' A' I' ∧ gw_F 70 84 a D a D' ∧ σ'.2 = σ.2 := by
  obtain ⟨w1, w2, w3⟩ := hW
  refine ⟨fun i => if i = 70 then some (.inr (5, mo_fs (a 70) I')) else if 71 ≤ i ∧ i < 84 then some (.inl (mo_ty (i - 71), mo_len (i - 71), .inl (A' (i - 71)))) else D i, ?_, ?_, ?_, w3⟩
  · refine hG.sub (fun i e he => ?_) (fun i hi => ?_)
    · by_cases z : i = 70
      · rw [if_pos z] at he
        cases he
        rw [z, w3]
        exact ⟨hG.lt h.2.1, w1.1⟩
      rw [if_neg z] at he
      by_cases z3 : 71 ≤ i ∧ i < 84
      · rw [if_pos z3] at he
        cases he
        have hk := h.2.2 (i - 71) (by omega)
        have ha := h.a1 (k := i - 71) (by omega)
        rw [show 71 + (i - 71) = i by omega] at hk ha
        refine ⟨by rw [w3]; exact hG.lt hk, ?_⟩
        rw [ha]
        exact w1.2 (i - 71) (by omega)
      · rw [if_neg z3] at he
        refine ⟨by rw [w3]; exact hG.lt he, ?_⟩
        rw [w2 (a i) ?_]
        · exact hG.at he
        · rcases Nat.lt_or_ge (a i) (a 70) with y | y
          · exact Or.inl y
          rcases Nat.lt_or_ge (a i) (a 70 + 14) with y2 | y2
          · exfalso
            have hk := h.1 (a i - a 70) (by omega)
            have := hG.1 i (70 + (a i - a 70)) (by rw [he]; exact gw_sn) (h.us (by omega) (by omega)) (by omega)
            omega
          · exact Or.inr y2
    · by_cases z : 70 ≤ i ∧ i < 84
      · exact h.us z.1 z.2
      · rw [if_neg (by omega), if_neg (by omega)] at hi
        exact hi
  · refine ⟨h.1, if_pos rfl, fun k hk => ?_⟩
    show (if 71 + k = 70 then _ else if 71 ≤ 71 + k ∧ 71 + k < 84 then _ else _) = _
    rw [if_neg (by omega), if_pos ⟨by omega, by omega⟩, Nat.add_sub_cancel_left]
  · intro i hi
    exact ⟨(if_neg (by omega)).trans (if_neg (by omega)), rfl⟩
end SH
end
section
/-! STRIPING, role 0: a record that ends is taken apart (keepRecord and what it calls), as a function of the draft and the columns. -/
def so_fs (a : Nat → Nat) (cr co tk : Int32) (ch : Int64) : List Value := [.ref (a 60), .ref (a 1), .ref (a 6), .ref (a 8), .ref (a 9), .int cr, .int co, .int tk, .long ch]
abbrev tk_S : Type := Int32 × (Nat → List co_E)
/-- is bit x in the set: not 0 if so -/
def st_hv (s : Int64) (x : Int32) : Int32 := lg_cmp ((s.toUInt64 >>> (x.toInt64.toUInt64 &&& Int64.toUInt64 63)).toInt64 &&& lN 1) (lN 0)
/-- an empty entry for each column of the set -/
def tk_emp (N : Nat) (s : Int64) (re de : Int32) : Nat → Nat → (Nat → List co_E) → Nat → List co_E
  | 0, _, col => col
  | m + 1, c, col => tk_emp N s re de m (c + 1) (if st_hv s (nI c) = 0 then col else co_ad N col (nI c) (re, de, 0))
def tk_occ (A : Nat → Nat → Int32) (V : Nat → Int32) (k N : Nat) (rec : Nat → Int32 → tk_S → tk_S) (w : Nat) (re : Int32) (s : tk_S) : tk_S := if A 5 w = -1 then rec w re (s.1 + 1, s.2) else (s.1 + 1, co_ad N s.2 (A 5 w) (re, A 4 w, dr_at V k 0 s.1))
def tk_rep (A : Nat → Nat → Int32) (F : Nat → Int32) (k : Nat) (occ : Int32 → tk_S → tk_S) (w : Nat) : Nat → Int32 → tk_S → tk_S
  | 0, _, s => s
  | m + 1, re, s => if dr_at F k (-1) s.1 = nI w then tk_rep A F k occ w m (A 3 w) (occ re s) else s
def tk_field (A : Nat → Nat → Int32) (S : Nat → Int64) (F V : Nat → Int32) (k N : Nat) (rec : Nat → Int32 → tk_S → tk_S) (w : Nat) (re : Int32) (s : tk_S) : tk_S := if dr_at F k (-1) s.1 = nI w then tk_rep A F k (tk_occ A V k N rec w) w 2048 re s else (s.1, tk_emp N (S w) re (sc_of A 4 (A 0 w)) 48 0 s.2)
def tk_loop (A : Nat → Nat → Int32) (S : Nat → Int64) (F V : Nat → Int32) (k N : Nat) (rec : Nat → Int32 → tk_S → tk_S) (g re : Int32) : Nat → Nat → tk_S → tk_S
  | 0, _, s => s
  | m + 1, f, s => tk_loop A S F V k N rec g re m (f + 1) (if A 0 f = g then tk_field A S F V k N rec f re s else s)
def tk_fields (A : Nat → Nat → Int32) (S : Nat → Int64) (F V : Nat → Int32) (k N : Nat) : Nat → Nat → Int32 → tk_S → tk_S
  | 0, _, _, s => s
  | m + 1, w, re, s => tk_loop A S F V k N (tk_fields A S F V k N m) (nI w) re ((A 6 w).toNatClampNeg - (w + 1)) (w + 1) s
/-- the roles that stay while a record is taken apart -/
def tk_F (a0 : Nat → Nat) (D0 : Nat → Option ri_E) (a : Nat → Nat) (D : Nat → Option ri_E) : Prop := (∀ i, (1 ≤ i ∧ i < 9 ∨ 60 ≤ i) → D i = D0 i) ∧ ∀ i, (i < 12 ∨ 60 ≤ i) → a i = a0 i
def tw_P (a0 : Nat → Nat) (D0 : Nat → Option ri_E) (σ0 : ri_S) (T0 : Nat) (cr co : Int32) (ch : Int64) (N : Nat) (s : tk_S) (a : Nat → Nat) (D : Nat → Option ri_E) (σ : ri_S) : Prop := gw_P a D σ ∧ D 0 = some (.inr (4, so_fs a cr co s.1 ch)) ∧ tk_F a0 D0 a D ∧ ∃ ln, co_P a D N s.2 ln ∧ gw_ro T0 (co_su N ln) σ0 σ
section TW
variable {a0 a : Nat → Nat} {D0 D : Nat → Option ri_E} {σ0 σ : ri_S} {T0 : Nat} {cr co : Int32} {ch : Int64} {N n : Nat} {A : Nat → Nat → Int32} {S : Nat → Int64} {I : Nat → Int32} {F V G W : Nat → Int32} {lf lv k dp : Nat} {bg : Int32} {d : Nat} {Q : Option Value → ri_S → Prop} {s : tk_S}
theorem tk_F.so (h : tk_F a0 D0 a D) (cr co tk : Int32) (ch : Int64) : so_fs a cr co tk ch = so_fs a0 cr co tk ch := by
  unfold so_fs
  rw [h.2 60 (by decide), h.2 1 (by decide), h.2 6 (by decide), h.2 8 (by decide), h.2 9 (by decide)]
theorem tw_P.o (h : tw_P a0 D0 σ0 T0 cr co ch N s a D σ) : σ.1 (a0 0) = some (.inr (4, so_fs a0 cr co s.1 ch)) := by
  rw [← h.2.2.1.2 0 (by decide), ← h.2.2.1.so]
  exact h.1.at h.2.1
theorem tw_P.sc (h : tw_P a0 D0 σ0 T0 cr co ch N s a D σ) (hs : sh_P a0 D0 A S I) : sc_P (a0 60) A S I σ.1 := by
  rw [← h.2.2.1.2 60 (by decide)]
  exact (hs.fr (fun i h1 h2 => ⟨h.2.2.1.1 i (by omega), h.2.2.1.2 i (by omega)⟩)).sc h.1
theorem tw_P.dr (h : tw_P a0 D0 σ0 T0 cr co ch N s a D σ) (hd : dr_P a0 D0 F V G W lf lv k dp bg) : dr_P a D F V G W lf lv k dp bg := hd.fr (fun i h1 h2 => ⟨h.2.2.1.1 i (by omega), h.2.2.1.2 i (by omega)⟩)
theorem tw_P.dd (h : tw_P a0 D0 σ0 T0 cr co ch N s a D σ) (hd : dr_P a0 D0 F V G W lf lv k dp bg) : σ.1 (a0 1) = some (.inr (1, [.ref (a 2), .ref (a 3), .ref (a 4), .ref (a 5), .int (nI k), .int (nI dp), .int bg])) := by
  rw [← h.2.2.1.2 1 (by decide)]
  exact h.1.at (h.dr hd).1
theorem tw_P.c (h : tw_P a0 D0 σ0 T0 cr co ch N s a D σ) : σ.1 (a0 9) = some (.inr (0, [.ref (a 10), .ref (a 11)])) := by
  obtain ⟨ln, hc, -⟩ := h.2.2.2
  rw [← h.2.2.1.2 9 (by decide)]
  exact h.1.at hc.1
theorem tw_put {M : ri_M} {F : ri_F} {pc np tg kf : Nat} {kv v : Int32} {L : List (Option Value)} {r : List Value} (hw : tw_P a0 D0 σ0 T0 cr co ch N s a D σ) (hgo : ri_go 99 M F = (pc, L, .int v :: .ref (a0 0) :: r)) (hf : ri_find pc M.2.2.2.2.2 = some (.putfield kf, np, tg, kv)) (ht : rt_f M.1 kf = some (4, 7, .int, 0)) (kk : ∀ (D' : Nat → Option ri_E) (σ' : ri_S), tw_P a0 D0 σ0 T0 cr co ch N (v, s.2) a D' σ' → ev_W d M (np, L, r) σ' Q) : ev_W d M F σ Q := by
  obtain ⟨h1, h2, h3, ln, h4, h5⟩ := hw
  rw [← h3.2 0 (by decide)] at hgo
  refine gw_put h1 h2 hgo hf ht rfl rfl rfl (fun σ' hG' e => ?_)
  refine kk _ σ' ⟨hG', rfl, ⟨fun i hi => (va_up_n (by omega)).trans (h3.1 i hi), h3.2⟩, ln, h4.fr (fun i g1 g2 => ⟨va_up_n (by omega), rfl⟩), ?_⟩
  unfold gw_ro at *
  rw [e]
  exact h5
theorem tw_cadd (hw : tw_P a0 D0 σ0 T0 cr co ch N s a D σ) {x re de v : Int32} (kk : ∀ (a' : Nat → Nat) (D' : Nat → Option ri_E) (σ' : ri_S), tw_P a0 D0 σ0 T0 cr co ch N (s.1, co_ad N s.2 x (re, de, v)) a' D' σ' → Q none σ') : ev_W (d + 3) mCo_add (0, [some (.ref (a0 9)), some (.int x), some (.int re), some (.int de), some (.int v), none, none], []) σ Q := by
  obtain ⟨h1, h2, h3, ln, h4, h5⟩ := hw
  rw [← h3.2 9 (by decide)]
  refine co_add h1 h4 (fun a' D' σ' ln' hG' hc' hF' ha' ho' => ?_)
  have hF2 : tk_F a0 D0 a' D' := ⟨fun i hi => (hF' i (by omega)).1.trans (h3.1 i hi), fun i hi => by
    rcases Nat.lt_or_ge i 12 with z | z
    · exact (ha' i z).trans (h3.2 i hi)
    · exact (hF' i (by omega)).2.trans (h3.2 i hi)⟩
  refine kk a' D' σ' ⟨hG', ?_, hF2, ln', hc', h5.tr ho'⟩
  rw [hF2.so, ← h3.so]
  exact (hF' 0 (by decide)).1.trans h2
set_option maxRecDepth 100000 in
/-- holds(set, column) -/
theorem st_holds {s : Int64} {x : Int32} (k1 : ¬ st_hv s x = 0 → Q (some (.int 1)) σ) (k0 : st_hv s x = 0 → Q (some (.int 0)) σ) : ev_W d mSt_holds (0, [some (.long s), none, some (.int x)], []) σ Q := by
  refine g_br rfl rfl rfl rfl rfl rfl (fun h => ?_) (fun h => ?_)
  · exact g_rt rfl rfl rfl (k0 h)
  · exact g_rt rfl rfl rfl (k1 h)
set_option maxRecDepth 100000 in
theorem tk_emp_loop {f re de : Int32} {e : Int64} : ∀ (m c : Nat) (s : tk_S) (a : Nat → Nat) (D : Nat → Option ri_E) (σ : ri_S), c + m = 48 → tw_P a0 D0 σ0 T0 cr co ch N s a D σ → (∀ (a' : Nat → Nat) (D' : Nat → Option ri_E) (σ' : ri_S), tw_P a0 D0 σ0 T0 cr co ch N (s.1, tk_emp N e re de m c s.2) a' D' σ' → Q none σ') → ev_W (d + 4) mSt_addEmptyEntries (29, [some (.ref (a0 0)), some (.int f), some (.int re), some (.int de), some (.long e), none, some (.int (nI c))], []) σ Q := by
  intro m
  induction m with
  | zero =>
    intro c s a D σ hc hw kk
    obtain rfl : c = 48 := by omega
    refine g_br rfl rfl rfl rfl rfl rfl (fun h => ?_) (fun h => absurd (by decide) h)
    exact g_rt rfl rfl rfl (kk a D σ hw)
  | succ m ih =>
    intro c s a D σ hc hw kk
    refine g_br rfl rfl rfl rfl rfl rfl (fun h => absurd h (show ¬ nI 48 ≤ nI c from nI_ge (by omega) (by decide))) (fun h => ?_)
    have eS : tk_emp N e re de (m + 1) c s.2 = tk_emp N e re de m (c + 1) (if st_hv e (nI c) = 0 then s.2 else co_ad N s.2 (nI c) (re, de, 0)) := rfl
    rw [eS] at kk
    have nxt : ∀ (s' : tk_S) (a' : Nat → Nat) (D' : Nat → Option ri_E) (σ' : ri_S), s' = (s.1, if st_hv e (nI c) = 0 then s.2 else co_ad N s.2 (nI c) (re, de, 0)) → tw_P a0 D0 σ0 T0 cr co ch N s' a' D' σ' → ev_W (d + 4) mSt_addEmptyEntries (58, [some (.ref (a0 0)), some (.int f), some (.int re), some (.int de), some (.long e), none, some (.int (nI c))], []) σ' Q := by
      intro s' a' D' σ' hs' hw'
      refine ev_go 2 rfl ?_
      show ev_W (d + 4) mSt_addEmptyEntries (29, [some (.ref (a0 0)), some (.int f), some (.int re), some (.int de), some (.long e), none, some (.int (nI c + 1))], []) σ' Q
      rw [nI_1]
      subst hs'
      exact ih (c + 1) _ a' D' σ' (by omega) hw' kk
    refine g_clS rfl rfl rfl rfl rfl rfl ?_
    refine st_holds (fun g1 => ?_) (fun g1 => ?_)
    · refine g_br rfl rfl rfl rfl rfl rfl (fun h => absurd h (by decide)) (fun _ => ?_)
      refine g_get rfl rfl rfl hw.o rfl ?_
      refine g_clV rfl rfl rfl rfl hw.c rfl rfl rfl ?_
      refine tw_cadd hw (fun a' D' σ' hw' => ?_)
      exact nxt _ a' D' σ' (by rw [if_neg g1]) hw'
    · refine g_br rfl rfl rfl rfl rfl rfl (fun _ => ?_) (fun h => absurd rfl h)
      exact nxt _ a D σ (by rw [if_pos g1]) hw
set_option maxRecDepth 100000 in
/-- addEmptyEntries(field, repetition) -/
theorem tk_addEmpty {w : Nat} {re : Int32} (hs : sh_P a0 D0 A S I) (hI : I 8 = nI n) (hn : n ≤ 48) (hup : mo_up (A 0) n) (hwn : w < n) (hw : tw_P a0 D0 σ0 T0 cr co ch N s a D σ) (kk : ∀ (a' : Nat → Nat) (D' : Nat → Option ri_E) (σ' : ri_S), tw_P a0 D0 σ0 T0 cr co ch N (s.1, tk_emp N (S w) re (sc_of A 4 (A 0 w)) 48 0 s.2) a' D' σ' → Q none σ') : ev_W (d + 4) mSt_addEmptyEntries (0, [some (.ref (a0 0)), some (.int (nI w)), some (.int re), none, none, none, none], []) σ Q := by
  have hP := hw.sc hs
  have one : ∀ w', w' < n → nI w = nI w' → w' = w := fun w' h1 h2 => ((nI_eq (by omega) (by omega)).mp h2).symm
  refine g_get rfl rfl rfl hw.o rfl ?_
  refine g_get rfl rfl rfl hw.o rfl ?_
  refine g_clV rfl rfl rfl rfl hP.1 rfl rfl rfl ?_
  refine sc_parentOf hP hI hn (fun w' h1 h2 => ?_) (fun h0 => absurd rfl (h0 w hwn))
  rw [one w' h1 h2]
  refine g_clV rfl rfl rfl rfl hP.1 rfl rfl rfl ?_
  have rest : ∀ x : Int32, x = sc_of A 4 (A 0 w) → ev_W (d + 4) mSt_addEmptyEntries (15, [some (.ref (a0 0)), some (.int (nI w)), some (.int re), none, none, none, none], [.int x]) σ Q := by
    intro x hx
    subst hx
    refine g_get rfl rfl rfl hw.o rfl ?_
    refine g_clV rfl rfl rfl rfl hP.1 rfl rfl rfl ?_
    refine sc_columnsIn hP hI hn (fun w' h1 h2 => ?_) (fun h0 => absurd rfl (h0 w hwn))
    rw [one w' h1 h2]
    refine ev_go 3 rfl ?_
    exact tk_emp_loop 48 0 s a D σ (by omega) hw kk
  refine sc_definitionOf hP hI hn (fun w' h1 h2 => ?_) (fun h0 => ?_)
  · refine rest _ ?_
    unfold sc_of
    rw [h2, if_neg (nI_nm1 (by omega)), nI_clamp (by omega)]
  · refine rest _ ?_
    unfold sc_of
    rcases hup w hwn with z | ⟨p, hp, z⟩
    · rw [if_pos z]
    · exact absurd z (h0 p (by omega))
/-- the contract of takeFields on group w, m levels being left -/
def tk_C (a0 : Nat → Nat) (D0 : Nat → Option ri_E) (σ0 : ri_S) (T0 : Nat) (cr co : Int32) (ch : Int64) (N n : Nat) (A : Nat → Nat → Int32) (S : Nat → Int64) (F V : Nat → Int32) (k : Nat) (dd m : Nat) : Prop := ∀ (w : Nat) (re : Int32) (s : tk_S) (a : Nat → Nat) (D : Nat → Option ri_E) (σ : ri_S) (Q : Option Value → ri_S → Prop), w < n → tw_P a0 D0 σ0 T0 cr co ch N s a D σ → (∀ (a' : Nat → Nat) (D' : Nat → Option ri_E) (σ' : ri_S), tw_P a0 D0 σ0 T0 cr co ch N (tk_fields A S F V k N m w re s) a' D' σ' → Q none σ') → ev_W dd mSt_takeFields (0, [some (.ref (a0 0)), some (.int (nI w)), some (.int re), some (.int (nI (16 - m))), none, none], []) σ Q
set_option maxRecDepth 100000 in
/-- takeOccurrence(field, repetition, depth) -/
theorem tk_takeOccurrence {w m : Nat} {re : Int32} (hs : sh_P a0 D0 A S I) (hd : dr_P a0 D0 F V G W lf lv k dp bg) (hI : I 8 = nI n) (hn : n ≤ 48) (hwn : w < n) (hm : m < 16) (hrec : tk_C a0 D0 σ0 T0 cr co ch N n A S F V k (d + 6) m) (hw : tw_P a0 D0 σ0 T0 cr co ch N s a D σ) (kk : ∀ (a' : Nat → Nat) (D' : Nat → Option ri_E) (σ' : ri_S), tw_P a0 D0 σ0 T0 cr co ch N (tk_occ A V k N (tk_fields A S F V k N m) w re s) a' D' σ' → Q none σ') : ev_W (d + 7) mSt_takeOccurrence (0, [some (.ref (a0 0)), some (.int (nI w)), some (.int re), some (.int (nI (15 - m))), none], []) σ Q := by
  have one : ∀ w', w' < n → nI w = nI w' → w' = w := fun w' h1 h2 => ((nI_eq (by omega) (by omega)).mp h2).symm
  unfold tk_occ at kk
  refine g_get rfl rfl rfl hw.o rfl ?_
  refine g_get rfl rfl rfl hw.o rfl ?_
  refine g_clV rfl rfl rfl rfl (hw.dd hd) rfl rfl rfl ?_
  have e1 := hw.2.2.1.2 1 (by decide)
  show ev_W (d + 6) mDr_valueAt (0, [some (.ref (a0 1)), some (.int s.1)], []) σ _
  rw [← e1]
  refine dr_valueAt hw.1 (hw.dr hd) ?_
  refine g_get rfl rfl rfl hw.o rfl ?_
  refine tw_put hw rfl rfl rfl (fun D1 σ1 hw1 => ?_)
  have hP := hw1.sc hs
  refine g_get rfl rfl rfl hw1.o rfl ?_
  refine g_clV rfl rfl rfl rfl hP.1 rfl rfl rfl ?_
  refine sc_isGroup hP hI hn (fun w' h1 h2 h3 => ?_) (fun h0 => ?_)
  · rw [one w' h1 h2] at h3
    rw [if_pos h3] at kk
    refine g_br rfl rfl rfl rfl rfl rfl (fun h => absurd h (by decide)) (fun _ => ?_)
    refine g_clV rfl rfl rfl rfl hw1.o rfl rfl rfl ?_
    show ev_W (d + 6) mSt_takeFields (0, [some (.ref (a0 0)), some (.int (nI w)), some (.int re), some (.int (nI (15 - m) + 1)), none, none], []) σ1 _
    rw [nI_1, show 15 - m + 1 = 16 - m by omega]
    refine hrec w re _ a D1 σ1 _ hwn hw1 (fun a' D' σ' hw' => ?_)
    exact g_rt rfl rfl rfl (kk a' D' σ' hw')
  · have h3 := h0 w hwn rfl
    rw [if_neg h3] at kk
    refine g_br rfl rfl rfl rfl rfl rfl (fun _ => ?_) (fun h => absurd rfl h)
    refine g_get rfl rfl rfl hw1.o rfl ?_
    refine g_get rfl rfl rfl hw1.o rfl ?_
    refine g_clV rfl rfl rfl rfl hP.1 rfl rfl rfl ?_
    refine sc_columnOf hP hI hn (fun w' h1 h2 => ?_) (fun h0 => absurd rfl (h0 w hwn))
    rw [one w' h1 h2]
    refine g_get rfl rfl rfl hw1.o rfl ?_
    refine g_clV rfl rfl rfl rfl hP.1 rfl rfl rfl ?_
    refine sc_definitionOf hP hI hn (fun w' h1 h2 => ?_) (fun h0 => absurd rfl (h0 w hwn))
    rw [one w' h1 h2]
    refine g_clV rfl rfl rfl rfl hw1.c rfl rfl rfl ?_
    refine tw_cadd hw1 (fun a' D' σ' hw' => ?_)
    exact g_rt rfl rfl rfl (kk a' D' σ' hw')
set_option maxRecDepth 100000 in
theorem tk_rep_loop {w m : Nat} {re0 : Int32} (hs : sh_P a0 D0 A S I) (hd : dr_P a0 D0 F V G W lf lv k dp bg) (hI : I 8 = nI n) (hn : n ≤ 48) (hwn : w < n) (hm : m < 16) (hrec : tk_C a0 D0 σ0 T0 cr co ch N n A S F V k (d + 6) m) : ∀ (t i : Nat) (re : Int32) (s : tk_S) (a : Nat → Nat) (D : Nat → Option ri_E) (σ : ri_S), i + t = 2048 → tw_P a0 D0 σ0 T0 cr co ch N s a D σ → (∀ (a' : Nat → Nat) (D' : Nat → Option ri_E) (σ' : ri_S), tw_P a0 D0 σ0 T0 cr co ch N (tk_rep A F k (tk_occ A V k N (tk_fields A S F V k N m) w) w t re s) a' D' σ' → Q none σ') → ev_W (d + 8) mSt_takeField (28, [some (.ref (a0 0)), some (.int (nI w)), some (.int re0), some (.int (nI (15 - m))), some (.int re), some (.int (nI i))], []) σ Q := by
  intro t
  induction t with
  | zero =>
    intro i re s a D σ hi hw kk
    obtain rfl : i = 2048 := by omega
    refine g_br rfl rfl rfl rfl rfl rfl (fun h => ?_) (fun h => absurd (by decide) h)
    exact g_rt rfl rfl rfl (kk a D σ hw)
  | succ t ih =>
    intro i re s a D σ hi hw kk
    have eS : tk_rep A F k (tk_occ A V k N (tk_fields A S F V k N m) w) w (t + 1) re s = if dr_at F k (-1) s.1 = nI w then tk_rep A F k (tk_occ A V k N (tk_fields A S F V k N m) w) w t (A 3 w) (tk_occ A V k N (tk_fields A S F V k N m) w re s) else s := rfl
    rw [eS] at kk
    refine g_br rfl rfl rfl rfl rfl rfl (fun h => absurd h (show ¬ nI 2048 ≤ nI i from nI_ge (by omega) (by decide))) (fun h => ?_)
    refine g_get rfl rfl rfl hw.o rfl ?_
    refine g_get rfl rfl rfl hw.o rfl ?_
    refine g_clV rfl rfl rfl rfl (hw.dd hd) rfl rfl rfl ?_
    show ev_W (d + 7) mDr_fieldAt (0, [some (.ref (a0 1)), some (.int s.1)], []) σ _
    rw [← hw.2.2.1.2 1 (by decide)]
    refine dr_fieldAt hw.1 (hw.dr hd) ?_
    refine g_br rfl rfl rfl rfl rfl rfl (fun g1 => ?_) (fun g1 => ?_)
    rotate_left
    · rw [if_neg g1] at kk
      exact g_rt rfl rfl rfl (kk a D σ hw)
    rw [if_pos g1] at kk
    refine g_clV rfl rfl rfl rfl hw.o rfl rfl rfl ?_
    refine tk_takeOccurrence hs hd hI hn hwn hm hrec hw (fun a1 D1 σ1 hw1 => ?_)
    have hP := hw1.sc hs
    refine g_get rfl rfl rfl hw1.o rfl ?_
    refine g_clV rfl rfl rfl rfl hP.1 rfl rfl rfl ?_
    refine sc_repetitionOf hP hI hn (fun w' h1 h2 => ?_) (fun h0 => absurd rfl (h0 w hwn))
    rw [show w' = w from ((nI_eq (by omega) (by omega)).mp h2).symm]
    refine ev_go 3 rfl ?_
    show ev_W (d + 8) mSt_takeField (28, [some (.ref (a0 0)), some (.int (nI w)), some (.int re0), some (.int (nI (15 - m))), some (.int (A 3 w)), some (.int (nI i + 1))], []) σ1 Q
    rw [nI_1]
    exact ih (i + 1) (A 3 w) _ a1 D1 σ1 (by omega) hw1 kk
set_option maxRecDepth 100000 in
/-- takeField(field, repetition, depth) -/
theorem tk_takeField {w m : Nat} {re : Int32} (hs : sh_P a0 D0 A S I) (hd : dr_P a0 D0 F V G W lf lv k dp bg) (hI : I 8 = nI n) (hn : n ≤ 48) (hup : mo_up (A 0) n) (hwn : w < n) (hm : m < 16) (hrec : tk_C a0 D0 σ0 T0 cr co ch N n A S F V k (d + 6) m) (hw : tw_P a0 D0 σ0 T0 cr co ch N s a D σ) (kk : ∀ (a' : Nat → Nat) (D' : Nat → Option ri_E) (σ' : ri_S), tw_P a0 D0 σ0 T0 cr co ch N (tk_field A S F V k N (tk_fields A S F V k N m) w re s) a' D' σ' → Q none σ') : ev_W (d + 8) mSt_takeField (0, [some (.ref (a0 0)), some (.int (nI w)), some (.int re), some (.int (nI (15 - m))), none, none], []) σ Q := by
  unfold tk_field at kk
  refine g_get rfl rfl rfl hw.o rfl ?_
  refine g_get rfl rfl rfl hw.o rfl ?_
  refine g_clV rfl rfl rfl rfl (hw.dd hd) rfl rfl rfl ?_
  show ev_W (d + 7) mDr_fieldAt (0, [some (.ref (a0 1)), some (.int s.1)], []) σ _
  rw [← hw.2.2.1.2 1 (by decide)]
  refine dr_fieldAt hw.1 (hw.dr hd) ?_
  refine g_br rfl rfl rfl rfl rfl rfl (fun g1 => ?_) (fun g1 => ?_)
  · rw [if_pos g1] at kk
    refine ev_go 4 rfl ?_
    exact tk_rep_loop hs hd hI hn hwn hm hrec 2048 0 re s a D σ (by omega) hw kk
  · rw [if_neg g1] at kk
    refine g_clV rfl rfl rfl rfl hw.o rfl rfl rfl ?_
    refine tk_addEmpty hs hI hn hup hwn hw (fun a' D' σ' hw' => ?_)
    exact g_rt rfl rfl rfl (kk a' D' σ' hw')
set_option maxRecDepth 100000 in
theorem tk_loop_ok {m hi : Nat} {g re : Int32} (hs : sh_P a0 D0 A S I) (hd : dr_P a0 D0 F V G W lf lv k dp bg) (hI : I 8 = nI n) (hn : n ≤ 48) (hup : mo_up (A 0) n) (hm : m < 16) (hhi : hi ≤ n) (hrec : tk_C a0 D0 σ0 T0 cr co ch N n A S F V k (d + 6) m) : ∀ (t f : Nat) (s : tk_S) (a : Nat → Nat) (D : Nat → Option ri_E) (σ : ri_S), t = hi - f → f ≤ 48 → tw_P a0 D0 σ0 T0 cr co ch N s a D σ → (∀ (a' : Nat → Nat) (D' : Nat → Option ri_E) (σ' : ri_S), tw_P a0 D0 σ0 T0 cr co ch N (tk_loop A S F V k N (tk_fields A S F V k N m) g re t f s) a' D' σ' → Q none σ') → ev_W (d + 9) mSt_takeFields (22, [some (.ref (a0 0)), some (.int g), some (.int re), some (.int (nI (15 - m))), some (.int (nI hi)), some (.int (nI f))], []) σ Q := by
  intro t
  induction t with
  | zero =>
    intro f s a D σ hf hf2 hw kk
    refine g_br rfl rfl rfl rfl rfl rfl (fun h => ?_) (fun h => absurd (nI_le (by omega) (by omega)) h)
    exact g_rt rfl rfl rfl (kk a D σ hw)
  | succ t ih =>
    intro f s a D σ hf hf2 hw kk
    have eS : tk_loop A S F V k N (tk_fields A S F V k N m) g re (t + 1) f s = tk_loop A S F V k N (tk_fields A S F V k N m) g re t (f + 1) (if A 0 f = g then tk_field A S F V k N (tk_fields A S F V k N m) f re s else s) := rfl
    rw [eS] at kk
    have hP := hw.sc hs
    refine g_br rfl rfl rfl rfl rfl rfl (fun h => absurd h (nI_ge (by omega) (by omega))) (fun h => ?_)
    have nxt : ∀ (s' : tk_S) (a' : Nat → Nat) (D' : Nat → Option ri_E) (σ' : ri_S), s' = (if A 0 f = g then tk_field A S F V k N (tk_fields A S F V k N m) f re s else s) → tw_P a0 D0 σ0 T0 cr co ch N s' a' D' σ' → ev_W (d + 9) mSt_takeFields (50, [some (.ref (a0 0)), some (.int g), some (.int re), some (.int (nI (15 - m))), some (.int (nI hi)), some (.int (nI f))], []) σ' Q := by
      intro s' a' D' σ' hs' hw'
      refine ev_go 2 rfl ?_
      show ev_W (d + 9) mSt_takeFields (22, [some (.ref (a0 0)), some (.int g), some (.int re), some (.int (nI (15 - m))), some (.int (nI hi)), some (.int (nI f + 1))], []) σ' Q
      rw [nI_1]
      subst hs'
      exact ih (f + 1) _ a' D' σ' (by omega) (by omega) hw' kk
    refine g_get rfl rfl rfl hw.o rfl ?_
    refine g_clV rfl rfl rfl rfl hP.1 rfl rfl rfl ?_
    refine sc_parentOf hP hI hn (fun w' h1 h2 => ?_) (fun h0 => absurd rfl (h0 f (by omega)))
    rw [show w' = f from ((nI_eq (by omega) (by omega)).mp h2).symm]
    refine g_br rfl rfl rfl rfl rfl rfl (fun g1 => ?_) (fun g1 => ?_)
    · refine g_clV rfl rfl rfl rfl hw.o rfl rfl rfl ?_
      refine tk_takeField hs hd hI hn hup (show f < n by omega) hm hrec hw (fun a' D' σ' hw' => ?_)
      exact nxt _ a' D' σ' (by rw [if_pos g1]) hw'
    · exact nxt _ a D σ (by rw [if_neg g1]) hw
set_option maxRecDepth 100000 in
/-- takeFields on a group -/
theorem tk_takeFields (hs : sh_P a0 D0 A S I) (hd : dr_P a0 D0 F V G W lf lv k dp bg) (hI : I 8 = nI n) (hn : n ≤ 48) (hup : mo_up (A 0) n) (hend : ∀ w, w < n → ∃ e, e ≤ n ∧ A 6 w = nI e) : ∀ (m : Nat), m ≤ 16 → ∀ d, tk_C a0 D0 σ0 T0 cr co ch N n A S F V k (d + 3 * m + 6) m := by
  intro m
  induction m with
  | zero =>
    intro _ d w re s a D σ Q hwn hw kk
    refine g_br rfl rfl rfl rfl rfl rfl (fun h => absurd h (by decide)) (fun h => ?_)
    exact g_rt rfl rfl rfl (kk a D σ hw)
  | succ m ih =>
    intro hm d w re s a D σ Q hwn hw kk
    rw [show d + 3 * (m + 1) + 6 = (d + 3 * m) + 9 by omega, show 16 - (m + 1) = 15 - m by omega]
    refine g_br rfl rfl rfl rfl rfl rfl (fun h => ?_) (fun h => absurd (show nI (15 - m) < nI 16 from nI_lt (by omega) (by decide)) h)
    have hP := hw.sc hs
    refine g_get rfl rfl rfl hw.o rfl ?_
    refine g_clV rfl rfl rfl rfl hP.1 rfl rfl rfl ?_
    refine sc_endOf hP hI hn (fun w' h1 h2 => ?_) (fun h0 => absurd rfl (h0 w hwn))
    rw [show w' = w from ((nI_eq (by omega) (by omega)).mp h2).symm]
    obtain ⟨e, he, ee⟩ := hend w hwn
    rw [ee]
    refine ev_go 5 rfl ?_
    show ev_W (d + 3 * m + 9) mSt_takeFields (22, [some (.ref (a0 0)), some (.int (nI w)), some (.int re), some (.int (nI (15 - m))), some (.int (nI e)), some (.int (nI w + 1))], []) σ Q
    rw [nI_1]
    have eS : tk_fields A S F V k N (m + 1) w re s = tk_loop A S F V k N (tk_fields A S F V k N m) (nI w) re ((A 6 w).toNatClampNeg - (w + 1)) (w + 1) s := rfl
    rw [eS, ee, nI_clamp (by omega)] at kk
    exact tk_loop_ok hs hd hI hn hup (by omega) he (ih (by omega) d) _ (w + 1) s a D σ rfl (by omega) hw kk
/-- the whole record taken apart -/
def tk_all (A : Nat → Nat → Int32) (S : Nat → Int64) (F V : Nat → Int32) (k N n : Nat) (col : Nat → List co_E) : tk_S := tk_loop A S F V k N (tk_fields A S F V k N 15) (-1) 0 n 0 (0, col)
set_option maxRecDepth 100000 in
/-- takeFields(NONE, 0, 0) -/
theorem tk_takeAll (hs : sh_P a0 D0 A S I) (hd : dr_P a0 D0 F V G W lf lv k dp bg) (hI : I 8 = nI n) (hn : n ≤ 48) (hup : mo_up (A 0) n) (hend : ∀ w, w < n → ∃ e, e ≤ n ∧ A 6 w = nI e) {col : Nat → List co_E} (hw : tw_P a0 D0 σ0 T0 cr co ch N (0, col) a D σ) (kk : ∀ (a' : Nat → Nat) (D' : Nat → Option ri_E) (σ' : ri_S), tw_P a0 D0 σ0 T0 cr co ch N (tk_all A S F V k N n col) a' D' σ' → Q none σ') : ev_W (d + 60) mSt_takeFields (0, [some (.ref (a0 0)), some (.int (-1)), some (.int 0), some (.int 0), none, none], []) σ Q := by
  refine g_br rfl rfl rfl rfl rfl rfl (fun h => ?_) (fun h => absurd (by decide) h)
  have hP := hw.sc hs
  refine g_get rfl rfl rfl hw.o rfl ?_
  refine g_clV rfl rfl rfl rfl hP.1 rfl rfl rfl ?_
  refine sc_endOf hP hI hn (fun w' h1 h2 => absurd h2.symm (nI_nm1 (by omega))) (fun h0 => ?_)
  refine ev_go 5 rfl ?_
  show ev_W (d + 6 + 3 * 15 + 9) mSt_takeFields (22, [some (.ref (a0 0)), some (.int (-1)), some (.int 0), some (.int (nI (15 - 15))), some (.int (nI n)), some (.int (nI 0))], []) σ Q
  exact tk_loop_ok (m := 15) hs hd hI hn hup (by decide) (Nat.le_refl _) (tk_takeFields hs hd hI hn hup hend 15 (by decide) (d + 6)) n 0 (0, col) a D σ (by omega) (by decide) hw kk
end TW
end
section
/-! STRIPING: a record is put together (putFields and what it calls), as a function of the cursors and the events. -/
abbrev pu_S : Type := (Nat → Int32) × List (Int32 × Int32)
def el_P (a : Nat → Nat) (D : Nat → Option ri_E) (ev : List (Int32 × Int32)) (le : Nat) : Prop := ∃ E, es_P a D E le ev.length ∧ ∀ q e, ev[q]? = some e → E (2 * q) = e.1 ∧ E (2 * q + 1) = e.2
def es_ad (ev : List (Int32 × Int32)) (e : Int32 × Int32) : List (Int32 × Int32) := if ev.length < 4096 then ev ++ [e] else ev
def pu_peek (N : Nat) (col : Nat → List co_E) (C : Nat → Int32) (x w : Int32) : Int32 := if x < 0 ∨ nI 48 ≤ x then -1 else co_rd N col x (C x.toNatClampNeg) w
def pu_pass (C : Nat → Int32) (x : Int32) : Nat → Int32 := if x < 0 ∨ nI 48 ≤ x then C else upd C x.toNatClampNeg (C x.toNatClampNeg + 1)
def pu_pall (e : Int64) : Nat → Nat → (Nat → Int32) → Nat → Int32
  | 0, _, C => C
  | m + 1, c, C => pu_pall e m (c + 1) (if st_hv e (nI c) = 0 then C else pu_pass C (nI c))
def st_lo (e : Int64) : Nat → Nat → Int32
  | 0, _ => -1
  | m + 1, c => if st_hv e (nI c) = 0 then st_lo e m (c + 1) else nI c
def pu_occ (A : Nat → Nat → Int32) (N : Nat) (col : Nat → List co_E) (rec : Nat → pu_S → pu_S) (w : Nat) (s : pu_S) : pu_S := if A 5 w = -1 then ((rec w (s.1, es_ad s.2 (2 * nI w, 0))).1, es_ad (rec w (s.1, es_ad s.2 (2 * nI w, 0))).2 (2 * nI w + 1, 0)) else (pu_pass s.1 (A 5 w), es_ad s.2 (2 * nI w, pu_peek N col s.1 (A 5 w) 2))
def pu_rep (A : Nat → Nat → Int32) (N : Nat) (col : Nat → List co_E) (occ : pu_S → pu_S) (w : Nat) (gd : Int32) : Nat → pu_S → pu_S
  | 0, s => s
  | m + 1, s => if A 1 w = 2 ∧ pu_peek N col s.1 gd 0 = A 3 w then pu_rep A N col occ w gd m (occ s) else s
def pu_field (A : Nat → Nat → Int32) (S : Nat → Int64) (ch : Int64) (N : Nat) (col : Nat → List co_E) (rec : Nat → pu_S → pu_S) (w : Nat) (s : pu_S) : pu_S := if st_lo (S w &&& ch) 48 0 = -1 then s else if pu_peek N col s.1 (st_lo (S w &&& ch) 48 0) 1 < A 4 w then (pu_pall (S w &&& ch) 48 0 s.1, s.2) else pu_rep A N col (pu_occ A N col rec w) w (st_lo (S w &&& ch) 48 0) 2047 (pu_occ A N col rec w s)
def pu_loop (A : Nat → Nat → Int32) (S : Nat → Int64) (ch : Int64) (N : Nat) (col : Nat → List co_E) (rec : Nat → pu_S → pu_S) (g : Int32) : Nat → Nat → pu_S → pu_S
  | 0, _, s => s
  | m + 1, f, s => pu_loop A S ch N col rec g m (f + 1) (if A 0 f = g then pu_field A S ch N col rec f s else s)
def pu_fields (A : Nat → Nat → Int32) (S : Nat → Int64) (ch : Int64) (N : Nat) (col : Nat → List co_E) : Nat → Nat → pu_S → pu_S
  | 0, _, s => s
  | m + 1, w, s => pu_loop A S ch N col (pu_fields A S ch N col m) (nI w) ((A 6 w).toNatClampNeg - (w + 1)) (w + 1) s
/-- the roles that stay while a record is put together -/
def pu_F (a0 : Nat → Nat) (D0 : Nat → Option ri_E) (a : Nat → Nat) (D : Nat → Option ri_E) : Prop := (∀ i, (i < 6 ∨ 9 ≤ i) → D i = D0 i) ∧ ∀ i, i ≠ 7 → a i = a0 i
def pw_P (a0 : Nat → Nat) (D0 : Nat → Option ri_E) (σ0 : ri_S) (T0 : Nat) (s : pu_S) (a : Nat → Nat) (D : Nat → Option ri_E) (σ : ri_S) : Prop := gw_P a D σ ∧ pu_F a0 D0 a D ∧ D 8 = some (.inl (.int, 48, .inl s.1)) ∧ ∃ le, el_P a D s.2 le ∧ gw_ro T0 le σ0 σ
section PW
variable {a0 a : Nat → Nat} {D0 D : Nat → Option ri_E} {σ0 σ : ri_S} {T0 : Nat} {cr co tk : Int32} {ch : Int64} {N n : Nat} {A : Nat → Nat → Int32} {S : Nat → Int64} {I : Nat → Int32} {col : Nat → List co_E} {ln : Nat → Nat} {d : Nat} {Q : Option Value → ri_S → Prop} {s : pu_S}
theorem el_P.fr {a' : Nat → Nat} {D' : Nat → Option ri_E} {ev : List (Int32 × Int32)} {le : Nat} (h : el_P a D ev le) (hF : ∀ i, 6 ≤ i → i < 8 → D' i = D i ∧ a' i = a i) : el_P a' D' ev le := by
  obtain ⟨E, h1, h2⟩ := h
  exact ⟨E, h1.fr hF, h2⟩
theorem pw_P.o (h : pw_P a0 D0 σ0 T0 s a D σ) (ho : D0 0 = some (.inr (4, so_fs a0 cr co tk ch))) : σ.1 (a0 0) = some (.inr (4, so_fs a0 cr co tk ch)) := by
  rw [← h.2.1.2 0 (by decide)]
  exact h.1.at ((h.2.1.1 0 (by decide)).trans ho)
theorem pw_P.sc (h : pw_P a0 D0 σ0 T0 s a D σ) (hs : sh_P a0 D0 A S I) : sc_P (a0 60) A S I σ.1 := by
  rw [← h.2.1.2 60 (by decide)]
  exact (hs.fr (fun i h1 h2 => ⟨h.2.1.1 i (by omega), h.2.1.2 i (by omega)⟩)).sc h.1
theorem pw_P.cq (h : pw_P a0 D0 σ0 T0 s a D σ) (hc : co_P a0 D0 N col ln) : co_P a D N col ln := hc.fr (fun i h1 h2 => ⟨h.2.1.1 i (by omega), h.2.1.2 i (by omega)⟩)
theorem pw_P.c (h : pw_P a0 D0 σ0 T0 s a D σ) (hc : co_P a0 D0 N col ln) : σ.1 (a0 9) = some (.inr (0, [.ref (a 10), .ref (a 11)])) := by
  rw [← h.2.1.2 9 (by decide)]
  exact h.1.at (h.cq hc).1
theorem pw_P.e (h : pw_P a0 D0 σ0 T0 s a D σ) : σ.1 (a0 6) = some (.inr (2, [.ref (a 7), .int (nI s.2.length)])) := by
  obtain ⟨le, ⟨E, hE, -⟩, -⟩ := h.2.2.2
  rw [← h.2.1.2 6 (by decide)]
  exact h.1.at hE.1
theorem pw_P.u (h : pw_P a0 D0 σ0 T0 s a D σ) : σ.1 (a0 8) = some (.inl (.int, 48, .inl s.1)) := by
  rw [← h.2.1.2 8 (by decide)]
  exact h.1.at h.2.2.1
set_option maxRecDepth 100000 in
/-- events.add(event, value) -/
theorem pw_eadd (hw : pw_P a0 D0 σ0 T0 s a D σ) {e v : Int32} (kk : ∀ (a' : Nat → Nat) (D' : Nat → Option ri_E) (σ' : ri_S), pw_P a0 D0 σ0 T0 (s.1, es_ad s.2 (e, v)) a' D' σ' → Q none σ') : ev_W (d + 3) mEv_add (0, [some (.ref (a0 6)), some (.int e), some (.int v), none], []) σ Q := by
  obtain ⟨h1, h2, h3, le, ⟨E, h4, h5⟩, h6⟩ := hw
  rw [← h2.2 6 (by decide)]
  unfold es_ad at kk
  refine es_add h1 h4 (fun hk => ?_) (fun a' D' σ' E' le' hk hG' he' g1 g2 g3 hF' ha' ho' => ?_)
  · rw [if_neg (by omega)] at kk
    exact kk a D σ ⟨h1, h2, h3, le, ⟨E, h4, h5⟩, h6⟩
  · rw [if_pos hk] at kk
    refine kk a' D' σ' ⟨hG', ⟨fun i hi => ?_, fun i hi => ?_⟩, ?_, le', ⟨E', ?_, fun q x hx => ?_⟩, h6.tr ho'⟩
    · exact (hF' i (by omega)).1.trans (h2.1 i hi)
    · by_cases z : i = 6
      · rw [z]; exact ha'.trans (h2.2 6 (by decide))
      · exact (hF' i (by omega)).2.trans (h2.2 i hi)
    · exact (hF' 8 (by decide)).1.trans h3
    · rw [List.length_append]; exact he'
    · rcases Nat.lt_trichotomy q s.2.length with y | y | y
      · rw [List.getElem?_append_left y] at hx
        obtain ⟨w1, w2⟩ := h5 q x hx
        exact ⟨(g1 _ (by omega)).trans w1, (g1 _ (by omega)).trans w2⟩
      · rw [y, List.getElem?_append_right (Nat.le_refl _), Nat.sub_self] at hx
        cases hx
        rw [y]
        exact ⟨g2, g3⟩
      · rw [List.getElem?_eq_none (by rw [List.length_append]; show s.2.length + 1 ≤ q; omega)] at hx
        cases hx
set_option maxRecDepth 100000 in
/-- isCursor(column) -/
theorem st_isCursor (hw : pw_P a0 D0 σ0 T0 s a D σ) (ho : D0 0 = some (.inr (4, so_fs a0 cr co tk ch))) {x : Int32} (k1 : ∀ c, c < 48 → x = nI c → Q (some (.int 1)) σ) (k0 : (x < 0 ∨ nI 48 ≤ x) → Q (some (.int 0)) σ) : ev_W d mSt_isCursor (0, [some (.ref (a0 0)), some (.int x)], []) σ Q := by
  refine g_br rfl rfl rfl rfl rfl rfl (fun h => ?_) (fun h => ?_)
  · exact g_rt rfl rfl rfl (k0 (Or.inl h))
  refine g_get rfl rfl rfl (hw.o ho) rfl ?_
  refine g_alen rfl rfl hw.u rfl ?_
  refine g_br rfl rfl rfl rfl rfl rfl (fun h2 => ?_) (fun h2 => ?_)
  · exact g_rt rfl rfl rfl (k0 (Or.inr h2))
  · obtain ⟨w, hw', rfl⟩ := nI_of h
    refine g_rt rfl rfl rfl (k1 w ?_ rfl)
    rcases Nat.lt_or_ge w 48 with z | z
    · exact z
    · exact absurd (nI_le z hw') h2
theorem pu_cur {c : Nat} (hc : c < 48) : ¬ (nI c < 0 ∨ nI 48 ≤ nI c) := fun z => z.elim (nI_pos (by omega)) (nI_ge hc (by decide))
set_option maxRecDepth 100000 in
/-- peek(column, what) -/
theorem st_peek (hw : pw_P a0 D0 σ0 T0 s a D σ) (ho : D0 0 = some (.inr (4, so_fs a0 cr co tk ch))) (hc : co_P a0 D0 N col ln) {x wh : Int32} (kk : Q (some (.int (pu_peek N col s.1 x wh))) σ) : ev_W (d + 2) mSt_peek (0, [some (.ref (a0 0)), some (.int x), some (.int wh)], []) σ Q := by
  unfold pu_peek at kk
  refine g_clV rfl rfl rfl rfl (hw.o ho) rfl rfl rfl ?_
  refine st_isCursor hw ho (fun c hc48 e => ?_) (fun h0 => ?_)
  · subst e
    rw [if_neg (pu_cur hc48), nI_clamp (by omega)] at kk
    refine g_br rfl rfl rfl rfl rfl rfl (fun h => absurd h (by decide)) (fun _ => ?_)
    refine g_get rfl rfl rfl (hw.o ho) rfl ?_
    refine g_get rfl rfl rfl (hw.o ho) rfl ?_
    refine gw_ald' hw.1 hw.2.2.1 (hw.2.1.2 8 (by decide)) rfl rfl rfl hc48 (by decide) ?_
    refine g_clV rfl rfl rfl rfl (hw.c hc) rfl rfl rfl ?_
    show ev_W (d + 1) mCo_read (0, [some (.ref (a0 9)), some (.int (nI c)), some (.int (s.1 c)), some (.int wh)], []) σ _
    rw [← hw.2.1.2 9 (by decide)]
    refine co_read hw.1 (hw.cq hc) ?_
    exact g_rt rfl rfl rfl kk
  · rw [if_pos h0] at kk
    refine g_br rfl rfl rfl rfl rfl rfl (fun _ => ?_) (fun h => absurd rfl h)
    exact g_rt rfl rfl rfl kk
set_option maxRecDepth 100000 in
/-- pass(column) -/
theorem st_pass (hw : pw_P a0 D0 σ0 T0 s a D σ) (ho : D0 0 = some (.inr (4, so_fs a0 cr co tk ch))) {x : Int32} (kk : ∀ (D' : Nat → Option ri_E) (σ' : ri_S), pw_P a0 D0 σ0 T0 (pu_pass s.1 x, s.2) a D' σ' → Q none σ') : ev_W (d + 1) mSt_pass (0, [some (.ref (a0 0)), some (.int x)], []) σ Q := by
  unfold pu_pass at kk
  refine g_clV rfl rfl rfl rfl (hw.o ho) rfl rfl rfl ?_
  refine st_isCursor hw ho (fun c hc48 e => ?_) (fun h0 => ?_)
  · subst e
    rw [if_neg (pu_cur hc48), nI_clamp (by omega)] at kk
    have ho' := hw.o ho
    obtain ⟨h1, h2, h3, le, h4, h6⟩ := hw
    refine g_br rfl rfl rfl rfl rfl rfl (fun h => absurd h (by decide)) (fun _ => ?_)
    refine g_get rfl rfl rfl ho' rfl ?_
    refine gw_ald' h1 h3 (h2.2 8 (by decide)) rfl rfl rfl hc48 (by decide) ?_
    refine gw_ast' h1 h3 (h2.2 8 (by decide)) rfl rfl rfl hc48 (by decide) (fun σ1 hG1 e1 => ?_)
    refine g_rt rfl rfl rfl (kk _ σ1 ⟨hG1, ⟨fun i hi => (va_up_n (by omega)).trans (h2.1 i hi), h2.2⟩, rfl, le, h4.fr (fun i g1 g2 => ⟨va_up_n (by omega), rfl⟩), ?_⟩)
    unfold gw_ro at *
    rw [e1]
    exact h6
  · rw [if_pos h0] at kk
    refine g_br rfl rfl rfl rfl rfl rfl (fun _ => ?_) (fun h => absurd rfl h)
    exact g_rt rfl rfl rfl (kk D σ hw)
set_option maxRecDepth 100000 in
theorem pu_pall_loop (ho : D0 0 = some (.inr (4, so_fs a0 cr co tk ch))) {e : Int64} : ∀ (m c : Nat) (s : pu_S) (D : Nat → Option ri_E) (σ : ri_S), c + m = 48 → pw_P a0 D0 σ0 T0 s a D σ → (∀ (D' : Nat → Option ri_E) (σ' : ri_S), pw_P a0 D0 σ0 T0 (pu_pall e m c s.1, s.2) a D' σ' → Q none σ') → ev_W (d + 2) mSt_passEmptyEntries (2, [some (.ref (a0 0)), some (.long e), none, some (.int (nI c))], []) σ Q := by
  intro m
  induction m with
  | zero =>
    intro c s D σ hc hw kk
    obtain rfl : c = 48 := by omega
    refine g_br rfl rfl rfl rfl rfl rfl (fun h => ?_) (fun h => absurd (by decide) h)
    exact g_rt rfl rfl rfl (kk D σ hw)
  | succ m ih =>
    intro c s D σ hc hw kk
    refine g_br rfl rfl rfl rfl rfl rfl (fun h => absurd h (show ¬ nI 48 ≤ nI c from nI_ge (by omega) (by decide))) (fun h => ?_)
    have eS : pu_pall e (m + 1) c s.1 = pu_pall e m (c + 1) (if st_hv e (nI c) = 0 then s.1 else pu_pass s.1 (nI c)) := rfl
    rw [eS] at kk
    have nxt : ∀ (s' : pu_S) (D' : Nat → Option ri_E) (σ' : ri_S), s' = (if st_hv e (nI c) = 0 then s.1 else pu_pass s.1 (nI c), s.2) → pw_P a0 D0 σ0 T0 s' a D' σ' → ev_W (d + 2) mSt_passEmptyEntries (21, [some (.ref (a0 0)), some (.long e), none, some (.int (nI c))], []) σ' Q := by
      intro s' D' σ' hs' hw'
      refine ev_go 2 rfl ?_
      show ev_W (d + 2) mSt_passEmptyEntries (2, [some (.ref (a0 0)), some (.long e), none, some (.int (nI c + 1))], []) σ' Q
      rw [nI_1]
      subst hs'
      exact ih (c + 1) _ D' σ' (by omega) hw' kk
    refine g_clS rfl rfl rfl rfl rfl rfl ?_
    refine st_holds (fun g1 => ?_) (fun g1 => ?_)
    · refine g_br rfl rfl rfl rfl rfl rfl (fun h => absurd h (by decide)) (fun _ => ?_)
      refine g_clV rfl rfl rfl rfl (hw.o ho) rfl rfl rfl ?_
      refine st_pass hw ho (fun D' σ' hw' => ?_)
      exact nxt _ D' σ' (by rw [if_neg g1]) hw'
    · refine g_br rfl rfl rfl rfl rfl rfl (fun _ => ?_) (fun h => absurd rfl h)
      exact nxt _ D σ (by rw [if_pos g1]) hw
set_option maxRecDepth 100000 in
theorem st_lowestOf_loop {e : Int64} (kk : Q (some (.int (st_lo e 48 0))) σ) : ∀ (m c : Nat), c + m = 48 → st_lo e m c = st_lo e 48 0 → ev_W (d + 1) mSt_lowestOf (2, [some (.long e), none, some (.int (nI c))], []) σ Q := by
  intro m
  induction m with
  | zero =>
    intro c hc he
    obtain rfl : c = 48 := by omega
    refine g_br rfl rfl rfl rfl rfl rfl (fun h => ?_) (fun h => absurd (by decide) h)
    rw [← he] at kk
    exact g_rt rfl rfl rfl kk
  | succ m ih =>
    intro c hc he
    refine g_br rfl rfl rfl rfl rfl rfl (fun h => absurd h (show ¬ nI 48 ≤ nI c from nI_ge (by omega) (by decide))) (fun h => ?_)
    have eS : st_lo e (m + 1) c = if st_hv e (nI c) = 0 then st_lo e m (c + 1) else nI c := rfl
    rw [eS] at he
    refine g_clS rfl rfl rfl rfl rfl rfl ?_
    refine st_holds (fun g1 => ?_) (fun g1 => ?_)
    · refine g_br rfl rfl rfl rfl rfl rfl (fun h => absurd h (by decide)) (fun _ => ?_)
      rw [if_neg g1] at he
      rw [← he] at kk
      exact g_rt rfl rfl rfl kk
    · refine g_br rfl rfl rfl rfl rfl rfl (fun _ => ?_) (fun h => absurd rfl h)
      rw [if_pos g1] at he
      refine ev_go 2 rfl ?_
      show ev_W (d + 1) mSt_lowestOf (2, [some (.long e), none, some (.int (nI c + 1))], []) σ Q
      rw [nI_1]
      exact ih (c + 1) (by omega) he
set_option maxRecDepth 100000 in
/-- lowestOf(set) -/
theorem st_lowestOf {e : Int64} (kk : Q (some (.int (st_lo e 48 0))) σ) : ev_W (d + 1) mSt_lowestOf (0, [some (.long e), none, none], []) σ Q := by
  refine ev_go 2 rfl ?_
  exact st_lowestOf_loop kk 48 0 (by omega) rfl
/-- the contract of putFields on group w, m levels being left -/
def pu_C (a0 : Nat → Nat) (D0 : Nat → Option ri_E) (σ0 : ri_S) (T0 : Nat) (ch : Int64) (N n : Nat) (A : Nat → Nat → Int32) (S : Nat → Int64) (col : Nat → List co_E) (dd m : Nat) : Prop := ∀ (w : Nat) (s : pu_S) (a : Nat → Nat) (D : Nat → Option ri_E) (σ : ri_S) (Q : Option Value → ri_S → Prop), w < n → pw_P a0 D0 σ0 T0 s a D σ → (∀ (a' : Nat → Nat) (D' : Nat → Option ri_E) (σ' : ri_S), pw_P a0 D0 σ0 T0 (pu_fields A S ch N col m w s) a' D' σ' → Q none σ') → ev_W dd mSt_putFields (0, [some (.ref (a0 0)), some (.int (nI w)), some (.int (nI (16 - m))), none, none], []) σ Q
set_option maxRecDepth 100000 in
/-- putOccurrence(field, depth) -/
theorem pu_putOccurrence {w m : Nat} (hs : sh_P a0 D0 A S I) (ho : D0 0 = some (.inr (4, so_fs a0 cr co tk ch))) (hc : co_P a0 D0 N col ln) (hI : I 8 = nI n) (hn : n ≤ 48) (hwn : w < n) (hm : m < 16) (hrec : pu_C a0 D0 σ0 T0 ch N n A S col (d + 6) m) (hw : pw_P a0 D0 σ0 T0 s a D σ) (kk : ∀ (a' : Nat → Nat) (D' : Nat → Option ri_E) (σ' : ri_S), pw_P a0 D0 σ0 T0 (pu_occ A N col (pu_fields A S ch N col m) w s) a' D' σ' → Q none σ') : ev_W (d + 7) mSt_putOccurrence (0, [some (.ref (a0 0)), some (.int (nI w)), some (.int (nI (15 - m))), none], []) σ Q := by
  have one : ∀ w', w' < n → nI w = nI w' → w' = w := fun w' h1 h2 => ((nI_eq (by omega) (by omega)).mp h2).symm
  unfold pu_occ at kk
  have hP := hw.sc hs
  refine g_get rfl rfl rfl (hw.o ho) rfl ?_
  refine g_clV rfl rfl rfl rfl hP.1 rfl rfl rfl ?_
  refine sc_isGroup hP hI hn (fun w' h1 h2 h3 => ?_) (fun h0 => ?_)
  · rw [one w' h1 h2] at h3
    rw [if_pos h3] at kk
    refine g_br rfl rfl rfl rfl rfl rfl (fun h => absurd h (by decide)) (fun _ => ?_)
    refine g_get rfl rfl rfl (hw.o ho) rfl ?_
    refine g_clV rfl rfl rfl rfl hw.e rfl rfl rfl ?_
    refine pw_eadd hw (fun a1 D1 σ1 hw1 => ?_)
    refine g_clV rfl rfl rfl rfl (hw1.o ho) rfl rfl rfl ?_
    show ev_W (d + 6) mSt_putFields (0, [some (.ref (a0 0)), some (.int (nI w)), some (.int (nI (15 - m) + 1)), none, none], []) σ1 _
    rw [nI_1, show 15 - m + 1 = 16 - m by omega]
    refine hrec w _ a1 D1 σ1 _ hwn hw1 (fun a2 D2 σ2 hw2 => ?_)
    refine g_get rfl rfl rfl (hw2.o ho) rfl ?_
    refine g_clV rfl rfl rfl rfl hw2.e rfl rfl rfl ?_
    refine pw_eadd hw2 (fun a3 D3 σ3 hw3 => ?_)
    exact g_rt rfl rfl rfl (kk a3 D3 σ3 hw3)
  · have h3 := h0 w hwn rfl
    rw [if_neg h3] at kk
    refine g_br rfl rfl rfl rfl rfl rfl (fun _ => ?_) (fun h => absurd rfl h)
    refine g_get rfl rfl rfl (hw.o ho) rfl ?_
    refine g_clV rfl rfl rfl rfl hP.1 rfl rfl rfl ?_
    refine sc_columnOf hP hI hn (fun w' h1 h2 => ?_) (fun h0 => absurd rfl (h0 w hwn))
    rw [one w' h1 h2]
    refine g_get rfl rfl rfl (hw.o ho) rfl ?_
    refine g_clV rfl rfl rfl rfl (hw.o ho) rfl rfl rfl ?_
    refine st_peek hw ho hc ?_
    refine g_clV rfl rfl rfl rfl hw.e rfl rfl rfl ?_
    refine pw_eadd hw (fun a1 D1 σ1 hw1 => ?_)
    refine g_clV rfl rfl rfl rfl (hw1.o ho) rfl rfl rfl ?_
    refine st_pass hw1 ho (fun D2 σ2 hw2 => ?_)
    exact g_rt rfl rfl rfl (kk a1 D2 σ2 hw2)
set_option maxRecDepth 100000 in
/-- comesAgain(field, guide) -/
theorem pu_comesAgain {w : Nat} {gd : Int32} (hs : sh_P a0 D0 A S I) (ho : D0 0 = some (.inr (4, so_fs a0 cr co tk ch))) (hc : co_P a0 D0 N col ln) (hI : I 8 = nI n) (hn : n ≤ 48) (hwn : w < n) (hw : pw_P a0 D0 σ0 T0 s a D σ) (k1 : A 1 w = 2 ∧ pu_peek N col s.1 gd 0 = A 3 w → Q (some (.int 1)) σ) (k0 : ¬ (A 1 w = 2 ∧ pu_peek N col s.1 gd 0 = A 3 w) → Q (some (.int 0)) σ) : ev_W (d + 3) mSt_comesAgain (0, [some (.ref (a0 0)), some (.int (nI w)), some (.int gd)], []) σ Q := by
  have one : ∀ w', w' < n → nI w = nI w' → w' = w := fun w' h1 h2 => ((nI_eq (by omega) (by omega)).mp h2).symm
  have hP := hw.sc hs
  refine g_get rfl rfl rfl (hw.o ho) rfl ?_
  refine g_clV rfl rfl rfl rfl hP.1 rfl rfl rfl ?_
  refine sc_kindOf hP hI hn (fun w' h1 h2 => ?_) (fun h0 => absurd rfl (h0 w hwn))
  rw [one w' h1 h2]
  refine g_br rfl rfl rfl rfl rfl rfl (fun g1 => ?_) (fun g1 => ?_)
  rotate_left
  · exact g_rt rfl rfl rfl (k0 (fun z => g1 z.1))
  refine g_clV rfl rfl rfl rfl (hw.o ho) rfl rfl rfl ?_
  refine st_peek hw ho hc ?_
  refine g_get rfl rfl rfl (hw.o ho) rfl ?_
  refine g_clV rfl rfl rfl rfl hP.1 rfl rfl rfl ?_
  refine sc_repetitionOf hP hI hn (fun w' h1 h2 => ?_) (fun h0 => absurd rfl (h0 w hwn))
  rw [one w' h1 h2]
  refine g_br rfl rfl rfl rfl rfl rfl (fun g2 => ?_) (fun g2 => ?_)
  · exact g_rt rfl rfl rfl (k1 ⟨g1, g2⟩)
  · exact g_rt rfl rfl rfl (k0 (fun z => g2 z.2))
set_option maxRecDepth 100000 in
theorem pu_rep_loop {w m : Nat} {gd : Int32} {e : Int64} (hs : sh_P a0 D0 A S I) (ho : D0 0 = some (.inr (4, so_fs a0 cr co tk ch))) (hc : co_P a0 D0 N col ln) (hI : I 8 = nI n) (hn : n ≤ 48) (hwn : w < n) (hm : m < 16) (hrec : pu_C a0 D0 σ0 T0 ch N n A S col (d + 6) m) : ∀ (t i : Nat) (s : pu_S) (a : Nat → Nat) (D : Nat → Option ri_E) (σ : ri_S), i + t = 2048 → pw_P a0 D0 σ0 T0 s a D σ → (∀ (a' : Nat → Nat) (D' : Nat → Option ri_E) (σ' : ri_S), pw_P a0 D0 σ0 T0 (pu_rep A N col (pu_occ A N col (pu_fields A S ch N col m) w) w gd t s) a' D' σ' → Q none σ') → ev_W (d + 8) mSt_putField (60, [some (.ref (a0 0)), some (.int (nI w)), some (.int (nI (15 - m))), some (.long e), none, some (.int gd), some (.int (nI i))], []) σ Q := by
  intro t
  induction t with
  | zero =>
    intro i s a D σ hi hw kk
    obtain rfl : i = 2048 := by omega
    refine g_br rfl rfl rfl rfl rfl rfl (fun h => ?_) (fun h => absurd (by decide) h)
    exact g_rt rfl rfl rfl (kk a D σ hw)
  | succ t ih =>
    intro i s a D σ hi hw kk
    have eS : pu_rep A N col (pu_occ A N col (pu_fields A S ch N col m) w) w gd (t + 1) s = if A 1 w = 2 ∧ pu_peek N col s.1 gd 0 = A 3 w then pu_rep A N col (pu_occ A N col (pu_fields A S ch N col m) w) w gd t (pu_occ A N col (pu_fields A S ch N col m) w s) else s := rfl
    rw [eS] at kk
    refine g_br rfl rfl rfl rfl rfl rfl (fun h => absurd h (show ¬ nI 2048 ≤ nI i from nI_ge (by omega) (by decide))) (fun h => ?_)
    refine g_clV rfl rfl rfl rfl (hw.o ho) rfl rfl rfl ?_
    refine pu_comesAgain hs ho hc hI hn hwn hw (fun g1 => ?_) (fun g1 => ?_)
    · rw [if_pos g1] at kk
      refine g_br rfl rfl rfl rfl rfl rfl (fun h => absurd h (by decide)) (fun _ => ?_)
      refine g_clV rfl rfl rfl rfl (hw.o ho) rfl rfl rfl ?_
      refine pu_putOccurrence hs ho hc hI hn hwn hm hrec hw (fun a1 D1 σ1 hw1 => ?_)
      refine ev_go 2 rfl ?_
      show ev_W (d + 8) mSt_putField (60, [some (.ref (a0 0)), some (.int (nI w)), some (.int (nI (15 - m))), some (.long e), none, some (.int gd), some (.int (nI i + 1))], []) σ1 Q
      rw [nI_1]
      exact ih (i + 1) _ a1 D1 σ1 (by omega) hw1 kk
    · rw [if_neg g1] at kk
      refine g_br rfl rfl rfl rfl rfl rfl (fun _ => ?_) (fun h => absurd rfl h)
      exact g_rt rfl rfl rfl (kk a D σ hw)
set_option maxRecDepth 100000 in
/-- putField(field, depth) -/
theorem pu_putField {w m : Nat} (hs : sh_P a0 D0 A S I) (ho : D0 0 = some (.inr (4, so_fs a0 cr co tk ch))) (hc : co_P a0 D0 N col ln) (hI : I 8 = nI n) (hn : n ≤ 48) (hwn : w < n) (hm : m < 16) (hrec : pu_C a0 D0 σ0 T0 ch N n A S col (d + 6) m) (hw : pw_P a0 D0 σ0 T0 s a D σ) (kk : ∀ (a' : Nat → Nat) (D' : Nat → Option ri_E) (σ' : ri_S), pw_P a0 D0 σ0 T0 (pu_field A S ch N col (pu_fields A S ch N col m) w s) a' D' σ' → Q none σ') : ev_W (d + 8) mSt_putField (0, [some (.ref (a0 0)), some (.int (nI w)), some (.int (nI (15 - m))), none, none, none, none], []) σ Q := by
  have one : ∀ w', w' < n → nI w = nI w' → w' = w := fun w' h1 h2 => ((nI_eq (by omega) (by omega)).mp h2).symm
  unfold pu_field at kk
  have hP := hw.sc hs
  refine g_get rfl rfl rfl (hw.o ho) rfl ?_
  refine g_clV rfl rfl rfl rfl hP.1 rfl rfl rfl ?_
  refine sc_columnsIn hP hI hn (fun w' h1 h2 => ?_) (fun h0 => absurd rfl (h0 w hwn))
  rw [one w' h1 h2]
  refine g_get rfl rfl rfl (hw.o ho) rfl ?_
  refine g_clS rfl rfl rfl rfl rfl rfl ?_
  refine st_lowestOf ?_
  refine g_br rfl rfl rfl rfl rfl rfl (fun g1 => ?_) (fun g1 => ?_)
  · rw [if_pos g1] at kk
    exact g_rt rfl rfl rfl (kk a D σ hw)
  rw [if_neg g1] at kk
  refine g_clV rfl rfl rfl rfl (hw.o ho) rfl rfl rfl ?_
  refine st_peek hw ho hc ?_
  refine g_get rfl rfl rfl (hw.o ho) rfl ?_
  refine g_clV rfl rfl rfl rfl hP.1 rfl rfl rfl ?_
  refine sc_definitionOf hP hI hn (fun w' h1 h2 => ?_) (fun h0 => absurd rfl (h0 w hwn))
  rw [one w' h1 h2]
  refine g_br rfl rfl rfl rfl rfl rfl (fun g2 => ?_) (fun g2 => ?_)
  rotate_left
  · rw [if_pos (Int32.not_le.mp g2)] at kk
    refine g_clV rfl rfl rfl rfl (hw.o ho) rfl rfl rfl ?_
    refine ev_go 2 rfl ?_
    refine pu_pall_loop ho 48 0 s D σ (by omega) hw (fun D' σ' hw' => ?_)
    exact g_rt rfl rfl rfl (kk a D' σ' hw')
  rw [if_neg (Int32.not_lt.mpr g2)] at kk
  refine g_clV rfl rfl rfl rfl (hw.o ho) rfl rfl rfl ?_
  refine pu_putOccurrence hs ho hc hI hn hwn hm hrec hw (fun a1 D1 σ1 hw1 => ?_)
  refine ev_go 2 rfl ?_
  exact pu_rep_loop hs ho hc hI hn hwn hm hrec 2047 1 _ a1 D1 σ1 (by omega) hw1 kk
set_option maxRecDepth 100000 in
theorem pu_loop_ok {m hi : Nat} {g : Int32} (hs : sh_P a0 D0 A S I) (ho : D0 0 = some (.inr (4, so_fs a0 cr co tk ch))) (hc : co_P a0 D0 N col ln) (hI : I 8 = nI n) (hn : n ≤ 48) (hm : m < 16) (hhi : hi ≤ n) (hrec : pu_C a0 D0 σ0 T0 ch N n A S col (d + 6) m) : ∀ (t f : Nat) (s : pu_S) (a : Nat → Nat) (D : Nat → Option ri_E) (σ : ri_S), t = hi - f → f ≤ 48 → pw_P a0 D0 σ0 T0 s a D σ → (∀ (a' : Nat → Nat) (D' : Nat → Option ri_E) (σ' : ri_S), pw_P a0 D0 σ0 T0 (pu_loop A S ch N col (pu_fields A S ch N col m) g t f s) a' D' σ' → Q none σ') → ev_W (d + 9) mSt_putFields (21, [some (.ref (a0 0)), some (.int g), some (.int (nI (15 - m))), some (.int (nI hi)), some (.int (nI f))], []) σ Q := by
  intro t
  induction t with
  | zero =>
    intro f s a D σ hf hf2 hw kk
    refine g_br rfl rfl rfl rfl rfl rfl (fun h => ?_) (fun h => absurd (nI_le (by omega) (by omega)) h)
    exact g_rt rfl rfl rfl (kk a D σ hw)
  | succ t ih =>
    intro f s a D σ hf hf2 hw kk
    have eS : pu_loop A S ch N col (pu_fields A S ch N col m) g (t + 1) f s = pu_loop A S ch N col (pu_fields A S ch N col m) g t (f + 1) (if A 0 f = g then pu_field A S ch N col (pu_fields A S ch N col m) f s else s) := rfl
    rw [eS] at kk
    have hP := hw.sc hs
    refine g_br rfl rfl rfl rfl rfl rfl (fun h => absurd h (nI_ge (by omega) (by omega))) (fun h => ?_)
    have nxt : ∀ (s' : pu_S) (a' : Nat → Nat) (D' : Nat → Option ri_E) (σ' : ri_S), s' = (if A 0 f = g then pu_field A S ch N col (pu_fields A S ch N col m) f s else s) → pw_P a0 D0 σ0 T0 s' a' D' σ' → ev_W (d + 9) mSt_putFields (47, [some (.ref (a0 0)), some (.int g), some (.int (nI (15 - m))), some (.int (nI hi)), some (.int (nI f))], []) σ' Q := by
      intro s' a' D' σ' hs' hw'
      refine ev_go 2 rfl ?_
      show ev_W (d + 9) mSt_putFields (21, [some (.ref (a0 0)), some (.int g), some (.int (nI (15 - m))), some (.int (nI hi)), some (.int (nI f + 1))], []) σ' Q
      rw [nI_1]
      subst hs'
      exact ih (f + 1) _ a' D' σ' (by omega) (by omega) hw' kk
    refine g_get rfl rfl rfl (hw.o ho) rfl ?_
    refine g_clV rfl rfl rfl rfl hP.1 rfl rfl rfl ?_
    refine sc_parentOf hP hI hn (fun w' h1 h2 => ?_) (fun h0 => absurd rfl (h0 f (by omega)))
    rw [show w' = f from ((nI_eq (by omega) (by omega)).mp h2).symm]
    refine g_br rfl rfl rfl rfl rfl rfl (fun g1 => ?_) (fun g1 => ?_)
    · refine g_clV rfl rfl rfl rfl (hw.o ho) rfl rfl rfl ?_
      refine pu_putField hs ho hc hI hn (show f < n by omega) hm hrec hw (fun a' D' σ' hw' => ?_)
      exact nxt _ a' D' σ' (by rw [if_pos g1]) hw'
    · exact nxt _ a D σ (by rw [if_neg g1]) hw
set_option maxRecDepth 100000 in
/-- putFields on a group -/
theorem pu_putFields (hs : sh_P a0 D0 A S I) (ho : D0 0 = some (.inr (4, so_fs a0 cr co tk ch))) (hc : co_P a0 D0 N col ln) (hI : I 8 = nI n) (hn : n ≤ 48) (hend : ∀ w, w < n → ∃ e, e ≤ n ∧ A 6 w = nI e) : ∀ (m : Nat), m ≤ 16 → ∀ d, pu_C a0 D0 σ0 T0 ch N n A S col (d + 3 * m + 6) m := by
  intro m
  induction m with
  | zero =>
    intro _ d w s a D σ Q hwn hw kk
    refine g_br rfl rfl rfl rfl rfl rfl (fun h => absurd h (by decide)) (fun h => ?_)
    exact g_rt rfl rfl rfl (kk a D σ hw)
  | succ m ih =>
    intro hm d w s a D σ Q hwn hw kk
    rw [show d + 3 * (m + 1) + 6 = (d + 3 * m) + 9 by omega, show 16 - (m + 1) = 15 - m by omega]
    refine g_br rfl rfl rfl rfl rfl rfl (fun h => ?_) (fun h => absurd (show nI (15 - m) < nI 16 from nI_lt (by omega) (by decide)) h)
    have hP := hw.sc hs
    refine g_get rfl rfl rfl (hw.o ho) rfl ?_
    refine g_clV rfl rfl rfl rfl hP.1 rfl rfl rfl ?_
    refine sc_endOf hP hI hn (fun w' h1 h2 => ?_) (fun h0 => absurd rfl (h0 w hwn))
    rw [show w' = w from ((nI_eq (by omega) (by omega)).mp h2).symm]
    obtain ⟨e, he, ee⟩ := hend w hwn
    rw [ee]
    refine ev_go 5 rfl ?_
    show ev_W (d + 3 * m + 9) mSt_putFields (21, [some (.ref (a0 0)), some (.int (nI w)), some (.int (nI (15 - m))), some (.int (nI e)), some (.int (nI w + 1))], []) σ Q
    rw [nI_1]
    have eS : pu_fields A S ch N col (m + 1) w s = pu_loop A S ch N col (pu_fields A S ch N col m) (nI w) ((A 6 w).toNatClampNeg - (w + 1)) (w + 1) s := rfl
    rw [eS, ee, nI_clamp (by omega)] at kk
    exact pu_loop_ok hs ho hc hI hn (by omega) he (ih (by omega) d) _ (w + 1) s a D σ rfl (by omega) hw kk
def pu_all (A : Nat → Nat → Int32) (S : Nat → Int64) (ch : Int64) (N n : Nat) (col : Nat → List co_E) (s : pu_S) : pu_S := pu_loop A S ch N col (pu_fields A S ch N col 15) (-1) n 0 s
set_option maxRecDepth 100000 in
/-- putFields(NONE, 0) -/
theorem pu_putAll (hs : sh_P a0 D0 A S I) (ho : D0 0 = some (.inr (4, so_fs a0 cr co tk ch))) (hc : co_P a0 D0 N col ln) (hI : I 8 = nI n) (hn : n ≤ 48) (hend : ∀ w, w < n → ∃ e, e ≤ n ∧ A 6 w = nI e) (hw : pw_P a0 D0 σ0 T0 s a D σ) (kk : ∀ (a' : Nat → Nat) (D' : Nat → Option ri_E) (σ' : ri_S), pw_P a0 D0 σ0 T0 (pu_all A S ch N n col s) a' D' σ' → Q none σ') : ev_W (d + 60) mSt_putFields (0, [some (.ref (a0 0)), some (.int (-1)), some (.int 0), none, none], []) σ Q := by
  refine g_br rfl rfl rfl rfl rfl rfl (fun h => ?_) (fun h => absurd (by decide) h)
  have hP := hw.sc hs
  refine g_get rfl rfl rfl (hw.o ho) rfl ?_
  refine g_clV rfl rfl rfl rfl hP.1 rfl rfl rfl ?_
  refine sc_endOf hP hI hn (fun w' h1 h2 => absurd h2.symm (nI_nm1 (by omega))) (fun h0 => ?_)
  refine ev_go 5 rfl ?_
  show ev_W (d + 6 + 3 * 15 + 9) mSt_putFields (21, [some (.ref (a0 0)), some (.int (-1)), some (.int (nI (15 - 15))), some (.int (nI n)), some (.int (nI 0))], []) σ Q
  exact pu_loop_ok (m := 15) hs ho hc hI hn (by decide) (Nat.le_refl _) (pu_putFields hs ho hc hI hn hend 15 (by decide) (d + 6)) n 0 s a D σ (by omega) (by decide) hw kk
/-- the cursors at a record's beginning -/
def pu_seek (N : Nat) (col : Nat → List co_E) (ch : Int64) (r : Int32) : Nat → Nat → (Nat → Int32) → Nat → Int32
  | 0, _, C => C
  | m + 1, c, C => pu_seek N col ch r m (c + 1) (if st_hv ch (nI c) = 0 then C else upd C c (co_from N col (nI c) r))
set_option maxRecDepth 100000 in
theorem pu_seek_loop (ho : D0 0 = some (.inr (4, so_fs a0 cr co tk ch))) (hc : co_P a0 D0 N col ln) {r : Int32} : ∀ (m c : Nat) (s : pu_S) (D : Nat → Option ri_E) (σ : ri_S), c + m = 48 → pw_P a0 D0 σ0 T0 s a D σ → (∀ (D' : Nat → Option ri_E) (σ' : ri_S), pw_P a0 D0 σ0 T0 (pu_seek N col ch r m c s.1, s.2) a D' σ' → Q none σ') → ev_W (d + 3) mSt_seek (2, [some (.ref (a0 0)), some (.int r), some (.int (nI c))], []) σ Q := by
  intro m
  induction m with
  | zero =>
    intro c s D σ hc' hw kk
    obtain rfl : c = 48 := by omega
    refine g_br rfl rfl rfl rfl rfl rfl (fun h => ?_) (fun h => absurd (by decide) h)
    exact g_rt rfl rfl rfl (kk D σ hw)
  | succ m ih =>
    intro c s D σ hc' hw kk
    refine g_br rfl rfl rfl rfl rfl rfl (fun h => absurd h (show ¬ nI 48 ≤ nI c from nI_ge (by omega) (by decide))) (fun h => ?_)
    have eS : pu_seek N col ch r (m + 1) c s.1 = pu_seek N col ch r m (c + 1) (if st_hv ch (nI c) = 0 then s.1 else upd s.1 c (co_from N col (nI c) r)) := rfl
    rw [eS] at kk
    have nxt : ∀ (s' : pu_S) (D' : Nat → Option ri_E) (σ' : ri_S), s' = (if st_hv ch (nI c) = 0 then s.1 else upd s.1 c (co_from N col (nI c) r), s.2) → pw_P a0 D0 σ0 T0 s' a D' σ' → ev_W (d + 3) mSt_seek (34, [some (.ref (a0 0)), some (.int r), some (.int (nI c))], []) σ' Q := by
      intro s' D' σ' hs' hw'
      refine ev_go 2 rfl ?_
      show ev_W (d + 3) mSt_seek (2, [some (.ref (a0 0)), some (.int r), some (.int (nI c + 1))], []) σ' Q
      rw [nI_1]
      subst hs'
      exact ih (c + 1) _ D' σ' (by omega) hw' kk
    refine g_get rfl rfl rfl (hw.o ho) rfl ?_
    refine g_clS rfl rfl rfl rfl rfl rfl ?_
    refine st_holds (fun g1 => ?_) (fun g1 => ?_)
    · refine g_br rfl rfl rfl rfl rfl rfl (fun h => absurd h (by decide)) (fun _ => ?_)
      refine g_get rfl rfl rfl (hw.o ho) rfl ?_
      refine g_get rfl rfl rfl (hw.o ho) rfl ?_
      refine g_clV rfl rfl rfl rfl (hw.c hc) rfl rfl rfl ?_
      show ev_W (d + 2) mCo_startOf (0, [some (.ref (a0 9)), some (.int (nI c)), some (.int r), none, none, none], []) σ _
      rw [← hw.2.1.2 9 (by decide)]
      refine co_startOf hw.1 (hw.cq hc) ?_
      obtain ⟨h1, h2, h3, le, h4, h6⟩ := hw
      refine gw_ast' h1 h3 (h2.2 8 (by decide)) rfl rfl rfl (show c < 48 by omega) (by decide) (fun σ1 hG1 e1 => ?_)
      refine nxt (upd s.1 c (co_from N col (nI c) r), s.2) _ σ1 (by rw [if_neg g1]) ⟨hG1, ⟨fun i hi => (va_up_n (by omega)).trans (h2.1 i hi), h2.2⟩, rfl, le, h4.fr (fun i g1 g2 => ⟨va_up_n (by omega), rfl⟩), ?_⟩
      unfold gw_ro at *
      rw [e1]
      exact h6
    · refine g_br rfl rfl rfl rfl rfl rfl (fun _ => ?_) (fun h => absurd rfl h)
      exact nxt _ D σ (by rw [if_pos g1]) hw
end PW
end
section
/-! STRIPING'S CALLS. cl_P: all of Striping's cells (roles 0 .. 68). Schema A S I; draft F V G W, k occurrences, depth dp, begun bg; N columns col; events ev; cr records and co occurrences closed; c1 c2: the room. -/
def cl_P (c1 c2 : Nat) (a : Nat → Nat) (D : Nat → Option ri_E) (σ : ri_S) (A : Nat → Nat → Int32) (S : Nat → Int64) (I F V G W : Nat → Int32) (k dp : Nat) (bg : Int32) (N : Nat) (col : Nat → List co_E) (ev : List (Int32 × Int32)) (cr co : Int32) : Prop :=
  gw_P a D σ ∧ ∃ (lf lv le : Nat) (ln : Nat → Nat) (C : Nat → Int32) (tk : Int32) (ch : Int64), D 0 = some (.inr (4, so_fs a cr co tk ch)) ∧ sh_P a D A S I ∧ dr_P a D F V G W lf lv k dp bg ∧ el_P a D ev le ∧ D 8 = some (.inl (.int, 48, .inl C)) ∧ co_P a D N col ln ∧ (24 * σ.2.1 + (if I 10 = 0 then 72 else 0) ≤ c1 + (lf + lv + le + co_su N ln) ∧ σ.2.2 + (if I 10 = 0 then 2 else 0) ≤ c2 + 2 * (lf + lv + le + co_su N ln))
def cl_F (a : Nat → Nat) (D : Nat → Option ri_E) (a' : Nat → Nat) (D' : Nat → Option ri_E) : Prop := (∀ i, 69 ≤ i → D' i = D i ∧ a' i = a i) ∧ a' 0 = a 0
theorem so_fr {a a' : Nat → Nat} (h : ∀ i, i = 60 ∨ i = 1 ∨ i = 6 ∨ i = 8 ∨ i = 9 → a' i = a i) (cr co tk : Int32) (ch : Int64) : so_fs a' cr co tk ch = so_fs a cr co tk ch := by
  unfold so_fs
  rw [h 60 (by omega), h 1 (by omega), h 6 (by omega), h 8 (by omega), h 9 (by omega)]
section CL
variable {c1 c2 : Nat} {a : Nat → Nat} {D : Nat → Option ri_E} {σ : ri_S} {A : Nat → Nat → Int32} {S : Nat → Int64} {I F V G W : Nat → Int32} {k dp : Nat} {bg : Int32} {N n lw : Nat} {col : Nat → List co_E} {ev : List (Int32 × Int32)} {cr co : Int32} {d : Nat} {Q : Option Value → ri_S → Prop}
theorem cl_F.rf : cl_F a D a D := ⟨fun _ _ => ⟨rfl, rfl⟩, rfl⟩
theorem cl_P.o (h : cl_P c1 c2 a D σ A S I F V G W k dp bg N col ev cr co) : ∃ (tk : Int32) (ch : Int64), σ.1 (a 0) = some (.inr (4, so_fs a cr co tk ch)) := by
  obtain ⟨hG, lf, lv, le, ln, C, tk, ch, ho, -⟩ := h
  exact ⟨tk, ch, hG.at ho⟩
theorem cl_P.sc (h : cl_P c1 c2 a D σ A S I F V G W k dp bg N col ev cr co) : sc_P (a 60) A S I σ.1 := by
  obtain ⟨hG, lf, lv, le, ln, C, tk, ch, ho, hs, -⟩ := h
  exact hs.sc hG
/-- Schema changes -/
theorem cl_P.us {A' : Nat → Nat → Int32} {S' : Nat → Int64} {I' : Nat → Int32} {σ' : ri_S} (h : cl_P c1 c2 a D σ A S I F V G W k dp bg N col ev cr co) (hW : sc_W (a 60) A' S' I' σ σ') (hI : I' 10 = I 10) : ∃ D', cl_P c1 c2 a D' σ' A' S' I' F V G W k dp bg N col ev cr co ∧ cl_F a D a D' := by
  obtain ⟨hG, lf, lv, le, ln, C, tk, ch, ho, hs, hd, he, hC, hc, hr⟩ := h
  obtain ⟨D', h1, h2, h3, h4⟩ := hs.up hG hW
  refine ⟨D', ⟨h1, lf, lv, le, ln, C, tk, ch, (h3 0 (by decide)).1.trans ho, h2, hd.fr (fun i _ _ => h3 i (by omega)), he.fr (fun i _ _ => h3 i (by omega)), (h3 8 (by decide)).1.trans hC, hc.fr (fun i _ _ => h3 i (by omega)), ?_⟩, fun i hi => h3 i (by omega), rfl⟩
  rw [hI, h4]
  exact hr
/-- the draft changes, without new rows -/
theorem cl_P.ud {D' : Nat → Option ri_E} {σ' : ri_S} {k' dp' lf lv : Nat} {bg' : Int32} {G' W' : Nat → Int32} (h : cl_P c1 c2 a D σ A S I F V G W k dp bg N col ev cr co) (hd0 : dr_P a D F V G W lf lv k dp bg) (h1 : gw_P a D' σ') (h2 : dr_P a D' F V G' W' lf lv k' dp' bg') (h3 : gw_F 1 6 a D a D') (h4 : σ'.2 = σ.2) : cl_P c1 c2 a D' σ' A S I F V G' W' k' dp' bg' N col ev cr co ∧ cl_F a D a D' := by
  obtain ⟨hG, lf1, lv1, le, ln, C, tk, ch, ho, hs, hd, he, hC, hc, hr⟩ := h
  obtain rfl : lf1 = lf := by have := hd.2.2.2.1.symm.trans hd0.2.2.2.1; cases this; rfl
  obtain rfl : lv1 = lv := by have := hd.2.2.2.2.1.symm.trans hd0.2.2.2.2.1; cases this; rfl
  refine ⟨⟨h1, lf1, lv1, le, ln, C, tk, ch, (h3 0 (by decide)).1.trans ho, hs.fr (fun i _ _ => h3 i (by omega)), h2, he.fr (fun i _ _ => h3 i (by omega)), (h3 8 (by decide)).1.trans hC, hc.fr (fun i _ _ => h3 i (by omega)), ?_⟩, fun i hi => h3 i (by omega), rfl⟩
  rw [h4]
  exact hr
set_option maxRecDepth 100000 in
/-- field(parent, kind, group) -/
theorem cl_field {p kd gb : Int32} (h : cl_P c1 c2 a D σ A S I F V G W k dp bg N col ev cr co) (hI : I 8 = nI n) (hn : n ≤ 48) (hl : I 9 = nI lw) (hup : mo_up (A 0) n) (kno : ¬ sc_yes A I n p kd → Q (some (.int (-1))) σ) (kyes : sc_yes A I n p kd → ∀ (D' : Nat → Option ri_E) (σ' : ri_S), cl_P c1 c2 a D' σ' (va_up (sc_A1 A n lw p kd gb) 6 (sc_st1 A S n lw p gb).1) (sc_st1 A S n lw p gb).2 (if gb = 0 then va_up (va_up I 8 (nI (n + 1))) 9 (nI (lw + 1)) else va_up I 8 (nI (n + 1))) F V G W k dp bg N col ev cr co → cl_F a D a D' → Q (some (.int (nI n))) σ') : ev_W (d + 4) mSt_field (0, [some (.ref (a 0)), some (.int p), some (.int kd), some (.int gb)], []) σ Q := by
  obtain ⟨tk, ch, ho⟩ := h.o
  have hP := h.sc
  refine g_get rfl rfl rfl ho rfl ?_
  refine g_clV rfl rfl rfl rfl hP.1 rfl rfl rfl ?_
  refine sc_add (σ0 := σ) ⟨hP, fun _ _ => rfl, rfl⟩ hI hn hl hup (fun z => ?_) (fun z σ' hW => ?_)
  · exact g_rt rfl rfl rfl (kno z)
  · obtain ⟨D', h1, h2⟩ := h.us hW (by split <;> rfl)
    exact g_rt rfl rfl rfl (kyes z D' σ' h1 h2)
set_option maxRecDepth 100000 in
/-- begin() -/
theorem cl_begin (h : cl_P c1 c2 a D σ A S I F V G W k dp bg N col ev cr co) (kno : ¬ (¬ I 10 = 0 ∧ bg = 0 ∧ cr < 128) → Q (some (.int 0)) σ) (kyes : ¬ I 10 = 0 ∧ bg = 0 ∧ cr < 128 → ∀ (D' : Nat → Option ri_E) (σ' : ri_S), cl_P c1 c2 a D' σ' A S I F V (upd G 0 (-1)) (upd W 0 (-1)) 0 0 1 N col ev cr co → cl_F a D a D' → Q (some (.int 1)) σ') : ev_W (d + 2) mSt_begin (0, [some (.ref (a 0))], []) σ Q := by
  obtain ⟨tk, ch, ho⟩ := h.o
  have hP := h.sc
  obtain ⟨hG, lf, lv, le, ln, C, tk', ch', -, hs, hd, -⟩ := id h
  refine g_get rfl rfl rfl ho rfl ?_
  refine g_get rfl rfl rfl hP.1 rfl ?_
  refine g_br rfl rfl rfl rfl rfl rfl (fun g1 => ?_) (fun g1 => ?_)
  · exact g_rt rfl rfl rfl (kno (fun z => z.1 g1))
  refine g_get rfl rfl rfl ho rfl ?_
  refine g_get rfl rfl rfl (hG.at hd.1) rfl ?_
  refine g_br rfl rfl rfl rfl rfl rfl (fun g2 => ?_) (fun g2 => ?_)
  rotate_left
  · exact g_rt rfl rfl rfl (kno (fun z => g2 z.2.1))
  refine g_get rfl rfl rfl ho rfl ?_
  refine g_br rfl rfl rfl rfl rfl rfl (fun g3 => ?_) (fun g3 => ?_)
  rotate_left
  · exact g_rt rfl rfl rfl (kno (fun z => g3 z.2.2))
  refine g_get rfl rfl rfl ho rfl ?_
  refine g_clV rfl rfl rfl rfl (hG.at hd.1) rfl rfl rfl ?_
  refine dr_start hG hd (fun D1 σ1 h1 h2 h3 h4 => ?_)
  obtain ⟨e1, e2⟩ := h.ud hd h1 h2 h3 h4
  exact g_rt rfl rfl rfl (kyes ⟨g1, g2, g3⟩ D1 σ1 e1 e2)
/-- an occurrence of field w may come -/
def cl_may (A : Nat → Nat → Int32) (n : Nat) (G W : Nat → Int32) (k dp : Nat) (bg co : Int32) (q w : Nat) : Prop := ¬ bg = 0 ∧ A 0 w = G dp ∧ co + nI k < 2048 ∧ ¬ nI w < W dp ∧ (nI w = W dp → A 1 w = 2) ∧ ¬ sc_req A n (G dp) q (nI w)
set_option maxRecDepth 100000 in
/-- mayCome(field) -/
theorem cl_mayCome {w q : Nat} (h : cl_P c1 c2 a D σ A S I F V G W k dp bg N col ev cr co) (hI : I 8 = nI n) (hn : n ≤ 48) (hw : w < n) (hq : (if W dp + 1 < 0 then 0 else W dp + 1) = nI q) (hq2 : q < 2 ^ 31) (k1 : cl_may A n G W k dp bg co q w → Q (some (.int 1)) σ) (k0 : ¬ cl_may A n G W k dp bg co q w → Q (some (.int 0)) σ) : ev_W (d + 3) mSt_mayCome (0, [some (.ref (a 0)), some (.int (nI w)), none], []) σ Q := by
  have one : ∀ w', w' < n → nI w = nI w' → w' = w := fun w' h1 h2 => ((nI_eq (by omega) (by omega)).mp h2).symm
  obtain ⟨tk, ch, ho⟩ := h.o
  have hP := h.sc
  obtain ⟨hG, lf, lv, le, ln, C, tk', ch', -, hs, hd, -⟩ := h
  refine g_get rfl rfl rfl ho rfl ?_
  refine g_get rfl rfl rfl (hG.at hd.1) rfl ?_
  refine g_br rfl rfl rfl rfl rfl rfl (fun g1 => ?_) (fun g1 => ?_)
  · exact g_rt rfl rfl rfl (k0 (fun z => z.1 g1))
  refine g_get rfl rfl rfl ho rfl ?_
  refine g_clV rfl rfl rfl rfl hP.1 rfl rfl rfl ?_
  refine sc_parentOf hP hI hn (fun w' h1 h2 => ?_) (fun h0 => absurd rfl (h0 w hw))
  rw [one w' h1 h2]
  refine g_get rfl rfl rfl ho rfl ?_
  refine g_clV rfl rfl rfl rfl (hG.at hd.1) rfl rfl rfl ?_
  refine dr_group hG hd ?_
  refine g_br rfl rfl rfl rfl rfl rfl (fun g2 => ?_) (fun g2 => ?_)
  rotate_left
  · exact g_rt rfl rfl rfl (k0 (fun z => g2 z.2.1))
  refine g_get rfl rfl rfl ho rfl ?_
  refine g_get rfl rfl rfl ho rfl ?_
  refine g_get rfl rfl rfl (hG.at hd.1) rfl ?_
  refine g_br rfl rfl rfl rfl rfl rfl (fun g3 => ?_) (fun g3 => ?_)
  rotate_left
  · exact g_rt rfl rfl rfl (k0 (fun z => g3 z.2.2.1))
  refine g_get rfl rfl rfl ho rfl ?_
  refine g_clV rfl rfl rfl rfl (hG.at hd.1) rfl rfl rfl ?_
  refine dr_newest hG hd ?_
  refine g_br rfl rfl rfl rfl rfl rfl (fun g4 => ?_) (fun g4 => ?_)
  · exact g_rt rfl rfl rfl (k0 (fun z => z.2.2.2.1 g4))
  have rest : (nI w = W dp → A 1 w = 2) → ev_W (d + 3) mSt_mayCome (82, [some (.ref (a 0)), some (.int (nI w)), some (.int (W dp))], []) σ Q := by
    intro g5
    refine g_get rfl rfl rfl ho rfl ?_
    refine g_get rfl rfl rfl ho rfl ?_
    refine g_clV rfl rfl rfl rfl (hG.at hd.1) rfl rfl rfl ?_
    refine dr_group hG hd ?_
    refine g_clV rfl rfl rfl rfl hP.1 rfl rfl rfl ?_
    refine sc_requires hP hn hI hq hq2 (fun z => ?_) (fun z => ?_)
    · refine g_br rfl rfl rfl rfl rfl rfl (fun h => absurd h (by decide)) (fun _ => ?_)
      exact g_rt rfl rfl rfl (k0 (fun y => y.2.2.2.2.2 z))
    · refine g_br rfl rfl rfl rfl rfl rfl (fun _ => ?_) (fun h => absurd rfl h)
      exact g_rt rfl rfl rfl (k1 ⟨g1, g2, g3, g4, g5, z⟩)
  refine g_br rfl rfl rfl rfl rfl rfl (fun g5 => ?_) (fun g5 => ?_)
  rotate_left
  · exact rest (fun z => absurd z g5)
  refine g_get rfl rfl rfl ho rfl ?_
  refine g_clV rfl rfl rfl rfl hP.1 rfl rfl rfl ?_
  refine sc_kindOf hP hI hn (fun w' h1 h2 => ?_) (fun h0 => absurd rfl (h0 w hw))
  rw [one w' h1 h2]
  refine g_br rfl rfl rfl rfl rfl rfl (fun g6 => ?_) (fun g6 => ?_)
  · exact rest (fun _ => g6)
  · exact g_rt rfl rfl rfl (k0 (fun z => g6 (z.2.2.2.2.1 g5)))
/-- an occurrence comes: what the draft becomes -/
theorem cl_P.ua {a' : Nat → Nat} {D' : Nat → Option ri_E} {σ' : ri_S} {F' V' W' : Nat → Int32} {lf lv lf' lv' k' : Nat} (h : cl_P c1 c2 a D σ A S I F V G W k dp bg N col ev cr co) (hd : dr_P a D F V G W lf lv k dp bg) (h1 : gw_P a' D' σ') (h2 : dr_P a' D' F' V' G W' lf' lv' k' dp bg) (h3 : gw_F 1 6 a D a' D') (h5 : a' 1 = a 1) (h4 : gw_ro (lf + lv) (lf' + lv') σ σ') : cl_P c1 c2 a' D' σ' A S I F' V' G W' k' dp bg N col ev cr co ∧ cl_F a D a' D' := by
  obtain ⟨hG, lf1, lv1, le, ln, C, tk, ch, ho, hs, hd1, he, hC, hc, hr⟩ := h
  obtain rfl : lf1 = lf := by have := hd1.2.2.2.1.symm.trans hd.2.2.2.1; cases this; rfl
  obtain rfl : lv1 = lv := by have := hd1.2.2.2.2.1.symm.trans hd.2.2.2.2.1; cases this; rfl
  refine ⟨⟨h1, lf', lv', le, ln, C, tk, ch, ?_, hs.fr (fun i _ _ => h3 i (by omega)), h2, he.fr (fun i _ _ => h3 i (by omega)), (h3 8 (by decide)).1.trans hC, hc.fr (fun i _ _ => h3 i (by omega)), ?_⟩, fun i hi => h3 i (by omega), (h3 0 (by decide)).2⟩
  · rw [so_fr (a := a) (a' := a') (fun i hi => ?_)]
    · exact (h3 0 (by decide)).1.trans ho
    · by_cases z : i = 1
      · rw [z]; exact h5
      · exact (h3 i (by omega)).2
  · unfold gw_ro at h4
    omega
set_option maxRecDepth 100000 in
/-- leaf(field, value) -/
theorem cl_leaf {f v : Int32} {q : Nat} (h : cl_P c1 c2 a D σ A S I F V G W k dp bg N col ev cr co) (hI : I 8 = nI n) (hn : n ≤ 48) (hk : k < 2048 ∨ ¬ co + nI k < 2048) (hq : (if W dp + 1 < 0 then 0 else W dp + 1) = nI q) (hq2 : q < 2 ^ 31) (kno : ¬ (∃ w, w < n ∧ f = nI w ∧ ¬ A 5 w = -1 ∧ cl_may A n G W k dp bg co q w) → Q (some (.int 0)) σ) (kyes : ∀ w, w < n → f = nI w → ¬ A 5 w = -1 → cl_may A n G W k dp bg co q w → ∀ (a' : Nat → Nat) (D' : Nat → Option ri_E) (σ' : ri_S) (F' V' : Nat → Int32), (∀ j, j < k → F' j = F j ∧ V' j = V j) → F' k = f → V' k = v → cl_P c1 c2 a' D' σ' A S I F' V' G (upd W dp f) (k + 1) dp bg N col ev cr co → cl_F a D a' D' → Q (some (.int 1)) σ') : ev_W (d + 4) mSt_leaf (0, [some (.ref (a 0)), some (.int f), some (.int v)], []) σ Q := by
  obtain ⟨tk, ch, ho⟩ := h.o
  have hP := h.sc
  refine g_get rfl rfl rfl ho rfl ?_
  refine g_clV rfl rfl rfl rfl hP.1 rfl rfl rfl ?_
  refine sc_isLeaf hP hI hn (fun w hw e h1 => ?_) (fun h0 => ?_)
  rotate_left
  · refine g_br rfl rfl rfl rfl rfl rfl (fun _ => ?_) (fun h => absurd rfl h)
    exact g_rt rfl rfl rfl (kno (fun ⟨w, z1, z2, z3, _⟩ => z3 (h0 w z1 z2)))
  subst e
  refine g_br rfl rfl rfl rfl rfl rfl (fun h => absurd h (by decide)) (fun _ => ?_)
  refine g_clV rfl rfl rfl rfl ho rfl rfl rfl ?_
  refine cl_mayCome h hI hn hw hq hq2 (fun z => ?_) (fun z => ?_)
  rotate_left
  · refine g_br rfl rfl rfl rfl rfl rfl (fun _ => ?_) (fun h => absurd rfl h)
    refine g_rt rfl rfl rfl (kno (fun ⟨w', z1, z2, z3, z4⟩ => z ?_))
    rw [(nI_eq (by omega) (by omega)).mp z2]
    exact z4
  refine g_br rfl rfl rfl rfl rfl rfl (fun h => absurd h (by decide)) (fun _ => ?_)
  obtain ⟨hG, lf, lv, le, ln, C, tk', ch', -, hs, hd, -⟩ := id h
  refine g_get rfl rfl rfl ho rfl ?_
  refine g_clV rfl rfl rfl rfl (hG.at hd.1) rfl rfl rfl ?_
  refine dr_add hG hd (hk.resolve_right (fun y => y z.2.2.1)) (fun a' D' σ' F' V' lf' lv' g1 g2 g3 g4 g5 g6 g7 g8 => ?_)
  obtain ⟨e1, e2⟩ := h.ua hd g1 g2 g6 g7 g8
  exact g_rt rfl rfl rfl (kyes w hw rfl h1 z a' D' σ' F' V' g3 g4 g5 e1 e2)
set_option maxRecDepth 100000 in
/-- open(field) -/
theorem cl_open {f : Int32} {q : Nat} (h : cl_P c1 c2 a D σ A S I F V G W k dp bg N col ev cr co) (hI : I 8 = nI n) (hn : n ≤ 48) (hk : k < 2048 ∨ ¬ co + nI k < 2048) (hdp : ∀ w, w < n → A 0 w = G dp → dp < 16) (hq : (if W dp + 1 < 0 then 0 else W dp + 1) = nI q) (hq2 : q < 2 ^ 31) (kno : ¬ (∃ w, w < n ∧ f = nI w ∧ A 5 w = -1 ∧ cl_may A n G W k dp bg co q w) → Q (some (.int 0)) σ) (kyes : ∀ w, w < n → f = nI w → A 5 w = -1 → cl_may A n G W k dp bg co q w → ∀ (a' : Nat → Nat) (D' : Nat → Option ri_E) (σ' : ri_S) (F' V' : Nat → Int32), (∀ j, j < k → F' j = F j ∧ V' j = V j) → F' k = f → V' k = 0 → cl_P c1 c2 a' D' σ' A S I F' V' (upd G (dp + 1) f) (upd (upd W dp f) (dp + 1) (-1)) (k + 1) (dp + 1) bg N col ev cr co → cl_F a D a' D' → Q (some (.int 1)) σ') : ev_W (d + 4) mSt_open (0, [some (.ref (a 0)), some (.int f)], []) σ Q := by
  obtain ⟨tk, ch, ho⟩ := h.o
  have hP := h.sc
  refine g_get rfl rfl rfl ho rfl ?_
  refine g_clV rfl rfl rfl rfl hP.1 rfl rfl rfl ?_
  refine sc_isGroup hP hI hn (fun w hw e h1 => ?_) (fun h0 => ?_)
  rotate_left
  · refine g_br rfl rfl rfl rfl rfl rfl (fun _ => ?_) (fun h => absurd rfl h)
    exact g_rt rfl rfl rfl (kno (fun ⟨w, z1, z2, z3, _⟩ => h0 w z1 z2 z3))
  subst e
  refine g_br rfl rfl rfl rfl rfl rfl (fun h => absurd h (by decide)) (fun _ => ?_)
  refine g_clV rfl rfl rfl rfl ho rfl rfl rfl ?_
  refine cl_mayCome h hI hn hw hq hq2 (fun z => ?_) (fun z => ?_)
  rotate_left
  · refine g_br rfl rfl rfl rfl rfl rfl (fun _ => ?_) (fun h => absurd rfl h)
    refine g_rt rfl rfl rfl (kno (fun ⟨w', z1, z2, z3, z4⟩ => z ?_))
    rw [(nI_eq (by omega) (by omega)).mp z2]
    exact z4
  refine g_br rfl rfl rfl rfl rfl rfl (fun h => absurd h (by decide)) (fun _ => ?_)
  obtain ⟨hG, lf, lv, le, ln, C, tk', ch', -, hs, hd, -⟩ := id h
  refine g_get rfl rfl rfl ho rfl ?_
  refine g_clV rfl rfl rfl rfl (hG.at hd.1) rfl rfl rfl ?_
  refine dr_add hG hd (hk.resolve_right (fun y => y z.2.2.1)) (fun a' D' σ' F' V' lf' lv' g1 g2 g3 g4 g5 g6 g7 g8 => ?_)
  obtain ⟨e1, e2⟩ := h.ua hd g1 g2 g6 g7 g8
  obtain ⟨tk2, ch2, ho2⟩ := e1.o
  rw [e2.2] at ho2
  refine g_get rfl rfl rfl ho2 rfl ?_
  refine g_clV rfl rfl rfl rfl (g1.at g2.1) rfl rfl rfl ?_
  refine dr_enter g1 g2 (hdp w hw z.2.1) (fun D2 σ2 q1 q2 q3 q4 => ?_)
  obtain ⟨y1, y2⟩ := e1.ud g2 q1 q2 q3 q4
  exact g_rt rfl rfl rfl (kyes w hw rfl h1 z a' D2 σ2 F' V' g3 g4 g5 y1 ⟨fun i hi => ⟨(y2.1 i hi).1.trans (e2.1 i hi).1, (e2.1 i hi).2⟩, e2.2⟩)
set_option maxRecDepth 100000 in
/-- drop() -/
theorem cl_drop (h : cl_P c1 c2 a D σ A S I F V G W k dp bg N col ev cr co) (kno : bg = 0 → Q (some (.int 0)) σ) (kyes : ¬ bg = 0 → ∀ (D' : Nat → Option ri_E) (σ' : ri_S), cl_P c1 c2 a D' σ' A S I F V G W 0 0 0 N col ev cr co → cl_F a D a D' → Q (some (.int 1)) σ') : ev_W (d + 1) mSt_drop (0, [some (.ref (a 0))], []) σ Q := by
  obtain ⟨tk, ch, ho⟩ := h.o
  obtain ⟨hG, lf, lv, le, ln, C, tk', ch', -, hs, hd, -⟩ := id h
  refine g_get rfl rfl rfl ho rfl ?_
  refine g_get rfl rfl rfl (hG.at hd.1) rfl ?_
  refine g_br rfl rfl rfl rfl rfl rfl (fun g1 => ?_) (fun g1 => ?_)
  · exact g_rt rfl rfl rfl (kno g1)
  refine g_get rfl rfl rfl ho rfl ?_
  refine g_clV rfl rfl rfl rfl (hG.at hd.1) rfl rfl rfl ?_
  refine dr_clear hG hd (fun D1 σ1 h1 h2 h3 h4 => ?_)
  obtain ⟨e1, e2⟩ := h.ud hd h1 h2 h3 h4
  exact g_rt rfl rfl rfl (kyes g1 D1 σ1 e1 e2)
set_option maxRecDepth 100000 in
/-- records() -/
theorem cl_records (h : cl_P c1 c2 a D σ A S I F V G W k dp bg N col ev cr co) (kk : Q (some (.int cr)) σ) : ev_W d mSt_records (0, [some (.ref (a 0))], []) σ Q := by
  obtain ⟨tk, ch, ho⟩ := h.o
  refine g_get rfl rfl rfl ho rfl ?_
  exact g_rt rfl rfl rfl kk
/-- what level answers -/
def cl_lev (A : Nat → Nat → Int32) (w : Nat) (wh : Int32) : Int32 := if wh = 0 then A 3 w else if wh = 1 then A 4 w else if wh = 2 then A 5 w else -1
set_option maxRecDepth 100000 in
/-- entries(column) -/
theorem cl_entries {x : Int32} (h : cl_P c1 c2 a D σ A S I F V G W k dp bg N col ev cr co) (kk : Q (some (.int (co_sz N col x))) σ) : ev_W (d + 2) mSt_entries (0, [some (.ref (a 0)), some (.int x)], []) σ Q := by
  obtain ⟨tk, ch, ho⟩ := h.o
  obtain ⟨hG, lf, lv, le, ln, C, tk', ch', -, hs, hd, he, hC, hc, -⟩ := h
  refine g_get rfl rfl rfl ho rfl ?_
  refine g_clV rfl rfl rfl rfl (hG.at hc.1) rfl rfl rfl ?_
  refine co_sizeOf hG hc ?_
  exact g_rt rfl rfl rfl kk
set_option maxRecDepth 100000 in
/-- entry(column, k, what) -/
theorem cl_entry {x y w : Int32} (h : cl_P c1 c2 a D σ A S I F V G W k dp bg N col ev cr co) (kk : Q (some (.int (co_rd N col x y w))) σ) : ev_W (d + 2) mSt_entry (0, [some (.ref (a 0)), some (.int x), some (.int y), some (.int w)], []) σ Q := by
  obtain ⟨tk, ch, ho⟩ := h.o
  obtain ⟨hG, lf, lv, le, ln, C, tk', ch', -, hs, hd, he, hC, hc, -⟩ := h
  refine g_get rfl rfl rfl ho rfl ?_
  refine g_clV rfl rfl rfl rfl (hG.at hc.1) rfl rfl rfl ?_
  refine co_read hG hc ?_
  exact g_rt rfl rfl rfl kk
/-- what event(k, what) answers of the events ev -/
def cl_ev (ev : List (Int32 × Int32)) (x wh : Int32) : Int32 := if x < 0 ∨ wh < 0 ∨ 2 ≤ wh then -1 else match ev[x.toNatClampNeg]? with
  | some e => if wh = 0 then e.1 else e.2
  | none => -1
theorem es_rd_ev {E : Nat → Int32} (hl : ev.length ≤ 4096) (hE : ∀ q e, ev[q]? = some e → E (2 * q) = e.1 ∧ E (2 * q + 1) = e.2) (x wh : Int32) : es_rd E ev.length x wh = cl_ev ev x wh := by
  unfold es_rd cl_ev
  by_cases g1 : x < 0
  · rw [if_pos (Or.inl g1), if_pos (Or.inl g1)]
  by_cases g3 : wh < 0
  · rw [if_pos (Or.inr (Or.inr (Or.inl g3))), if_pos (Or.inr (Or.inl g3))]
  by_cases g4 : 2 ≤ wh
  · rw [if_pos (Or.inr (Or.inr (Or.inr g4))), if_pos (Or.inr (Or.inr g4))]
  obtain ⟨p, hp, rfl⟩ := nI_of g1
  obtain ⟨v, hv, rfl⟩ := nI_of g3
  have hv2 : v < 2 := by
    rcases Nat.lt_or_ge v 2 with z | z
    · exact z
    · exact absurd (show nI 2 ≤ nI v from nI_le z hv) g4
  rw [if_neg (show ¬ (nI p < 0 ∨ nI v < 0 ∨ 2 ≤ nI v) from fun z => z.elim g1 (fun z => z.elim g3 g4)), nI_clamp hp, nI_clamp hv]
  by_cases g2 : nI ev.length ≤ nI p
  · rw [if_pos (Or.inr (Or.inl g2)), List.getElem?_eq_none ((nI_leI (by omega) hp).mp g2)]
  have hpl : p < ev.length := by
    rcases Nat.lt_or_ge p ev.length with z | z
    · exact z
    · exact absurd (nI_le z hp) g2
  rw [if_neg (fun z => z.elim g1 (fun z => z.elim g2 (fun z => z.elim g3 g4))), List.getElem?_eq_getElem hpl]
  obtain ⟨w1, w2⟩ := hE p _ (List.getElem?_eq_getElem hpl)
  match v, hv2 with
  | 0, _ => exact w1.trans (if_pos rfl).symm
  | 1, _ => exact w2.trans (if_neg (by decide)).symm
set_option maxRecDepth 100000 in
/-- event(k, what) -/
theorem cl_event {x wh : Int32} (h : cl_P c1 c2 a D σ A S I F V G W k dp bg N col ev cr co) (kk : Q (some (.int (cl_ev ev x wh))) σ) : ev_W (d + 1) mSt_event (0, [some (.ref (a 0)), some (.int x), some (.int wh)], []) σ Q := by
  obtain ⟨tk, ch, ho⟩ := h.o
  obtain ⟨hG, lf, lv, le, ln, C, tk', ch', -, hs, hd, ⟨E, he, hE⟩, -⟩ := h
  refine g_get rfl rfl rfl ho rfl ?_
  refine g_clV rfl rfl rfl rfl (hG.at he.1) rfl rfl rfl ?_
  refine es_read hG he ?_
  rw [es_rd_ev (by have := he.2.2; omega) hE]
  exact g_rt rfl rfl rfl kk
end CL
end
section
/-! STRIPING'S CALLS: level, close, assemble, ready. -/
section CL2
variable {c1 c2 : Nat} {a : Nat → Nat} {D : Nat → Option ri_E} {σ : ri_S} {A : Nat → Nat → Int32} {S : Nat → Int64} {I F V G W : Nat → Int32} {k dp : Nat} {bg : Int32} {N n lw : Nat} {col : Nat → List co_E} {ev : List (Int32 × Int32)} {cr co : Int32} {d : Nat} {Q : Option Value → ri_S → Prop}
set_option maxRecDepth 100000 in
/-- level(field, what) -/
theorem cl_level {f wh : Int32} (h : cl_P c1 c2 a D σ A S I F V G W k dp bg N col ev cr co) (hI : I 8 = nI n) (hn : n ≤ 48) (k0 : (∀ w, w < n → ¬ f = nI w) → Q (some (.int (-1))) σ) (k1 : ∀ w, w < n → f = nI w → Q (some (.int (cl_lev A w wh))) σ) : ev_W (d + 2) mSt_level (0, [some (.ref (a 0)), some (.int f), some (.int wh)], []) σ Q := by
  obtain ⟨tk, ch, ho⟩ := h.o
  have hP := h.sc
  refine g_get rfl rfl rfl ho rfl ?_
  refine g_clV rfl rfl rfl rfl hP.1 rfl rfl rfl ?_
  refine sc_has hP hI hn (fun w hw e => ?_) (fun h0 => ?_)
  rotate_left
  · refine g_br rfl rfl rfl rfl rfl rfl (fun _ => ?_) (fun h => absurd rfl h)
    exact g_rt rfl rfl rfl (k0 h0)
  have one : ∀ w', w' < n → f = nI w' → w' = w := fun w' h1 h2 => (nI_eq (by omega) (by omega)).mp (h2.symm.trans e)
  refine g_br rfl rfl rfl rfl rfl rfl (fun h => absurd h (by decide)) (fun _ => ?_)
  have kk := k1 w hw e
  unfold cl_lev at kk
  by_cases z0 : wh = 0
  · subst z0
    rw [if_pos rfl] at kk
    refine g_px rfl rfl rfl rfl rfl rfl ?_
    refine g_get rfl rfl rfl ho rfl ?_
    refine g_clV rfl rfl rfl rfl hP.1 rfl rfl rfl ?_
    refine sc_repetitionOf hP hI hn (fun w' h1 h2 => ?_) (fun h0 => absurd e (h0 w hw))
    rw [one w' h1 h2]
    exact g_rt rfl rfl rfl kk
  rw [if_neg z0] at kk
  by_cases z1 : wh = 1
  · subst z1
    rw [if_pos rfl] at kk
    refine g_px rfl rfl rfl rfl rfl rfl ?_
    refine g_get rfl rfl rfl ho rfl ?_
    refine g_clV rfl rfl rfl rfl hP.1 rfl rfl rfl ?_
    refine sc_definitionOf hP hI hn (fun w' h1 h2 => ?_) (fun h0 => absurd e (h0 w hw))
    rw [one w' h1 h2]
    exact g_rt rfl rfl rfl kk
  rw [if_neg z1] at kk
  by_cases z2 : wh = 2
  · subst z2
    rw [if_pos rfl] at kk
    refine g_px rfl rfl rfl rfl rfl rfl ?_
    refine g_get rfl rfl rfl ho rfl ?_
    refine g_clV rfl rfl rfl rfl hP.1 rfl rfl rfl ?_
    refine sc_columnOf hP hI hn (fun w' h1 h2 => ?_) (fun h0 => absurd e (h0 w hw))
    rw [one w' h1 h2]
    exact g_rt rfl rfl rfl kk
  rw [if_neg z2] at kk
  have hout : wh.toInt < 0 ∨ (2 : Int) < wh.toInt := by
    rcases Int.lt_or_le wh.toInt 0 with y | y
    · exact Or.inl y
    rcases Int.lt_or_le 2 wh.toInt with y2 | y2
    · exact Or.inr y2
    exfalso
    have h3 : wh.toInt = 0 ∨ wh.toInt = 1 ∨ wh.toInt = 2 := by omega
    rcases h3 with q | q | q
    · exact z0 (Int32.toInt_inj.mp (q.trans (by decide)))
    · exact z1 (Int32.toInt_inj.mp (q.trans (by decide)))
    · exact z2 (Int32.toInt_inj.mp (q.trans (by decide)))
  refine g_px rfl rfl rfl rfl rfl (if_pos hout) ?_
  exact g_rt rfl rfl rfl kk
/-- up to where the fields of group g are asked for -/
def cl_to (A : Nat → Nat → Int32) (n : Nat) (g : Int32) : Int32 := if g = -1 then nI n else A 6 g.toNatClampNeg
set_option maxRecDepth 100000 in
/-- keepRecord() -/
theorem cl_keep (h : cl_P c1 c2 a D σ A S I F V G W k dp bg N col ev cr co) (hI : I 8 = nI n) (hn : n ≤ 48) (hup : mo_up (A 0) n) (hend : ∀ w, w < n → ∃ e, e ≤ n ∧ A 6 w = nI e) (kk : ∀ (a' : Nat → Nat) (D' : Nat → Option ri_E) (σ' : ri_S), cl_P c1 c2 a' D' σ' A S I F V G W 0 0 0 N (tk_all A S F V k N n col).2 ev (cr + 1) (co + nI k) → cl_F a D a' D' → Q none σ') : ev_W (d + 61) mSt_keepRecord (0, [some (.ref (a 0))], []) σ Q := by
  obtain ⟨hG, lf, lv, le, ln, C, tk, ch, ho, hs, hd, he, hC, hc, hr⟩ := h
  have hw0 : tw_P a D σ (co_su N ln) cr co ch N (tk, col) a D σ := ⟨hG, ho, ⟨fun _ _ => rfl, fun _ _ => rfl⟩, ln, hc, gw_ro.rf rfl⟩
  refine tw_put hw0 rfl rfl rfl (fun D1 σ1 hw1 => ?_)
  refine g_clV rfl rfl rfl rfl hw1.o rfl rfl rfl ?_
  refine tk_takeAll hs hd hI hn hup hend hw1 (fun a2 D2 σ2 hw2 => ?_)
  have hd2 := hw2.dr hd
  have e0 := hw2.2.2.1.2 0 (by decide)
  have e1 := hw2.2.2.1.2 1 (by decide)
  obtain ⟨g1, g2, g3, ln2, g4, g5⟩ := hw2
  rw [← e0]
  refine g_get rfl rfl rfl (g1.at g2) rfl ?_
  refine gw_put g1 g2 rfl rfl rfl rfl rfl rfl (fun σ3 hG3 e3 => ?_)
  refine g_get rfl rfl rfl (hG3.at (i := 0) rfl) rfl ?_
  refine g_get rfl rfl rfl (hG3.at (i := 0) rfl) rfl ?_
  refine g_get rfl rfl rfl (hG3.at (i := 1) hd2.1) rfl ?_
  refine gw_put hG3 (i := 0) rfl rfl rfl rfl rfl rfl rfl (fun σ4 hG4 e4 => ?_)
  refine g_get rfl rfl rfl (hG4.at (i := 0) rfl) rfl ?_
  have hd4 : ∀ x y : Option ri_E, dr_P a2 (va_up (va_up D2 0 x) 0 y) F V G W lf lv k dp bg := fun x y => hd2.fr (fun i _ _ => ⟨(va_up_n (by omega)).trans (va_up_n (by omega)), rfl⟩)
  refine g_clV rfl rfl rfl rfl (hG4.at (hd4 _ _).1) rfl rfl rfl ?_
  refine dr_clear hG4 (hd4 _ _) (fun D5 σ5 hG5 hd5 hF5 e5 => ?_)
  have fr : ∀ i, (6 ≤ i) → D5 i = D2 i := fun i hi => (hF5 i (by omega)).1.trans ((va_up_n (by omega)).trans (va_up_n (by omega)))
  refine g_rt rfl rfl rfl (kk a2 D5 σ5 ⟨hG5, lf, lv, le, ln2, C, _, ch, (hF5 0 (by decide)).1, ?_, hd5, ?_, ?_, ?_, ?_⟩ ⟨fun i hi => ⟨(fr i (by omega)).trans (g3.1 i (by omega)), g3.2 i (by omega)⟩, e0⟩)
  · exact hs.fr (fun i _ _ => ⟨(fr i (by omega)).trans (g3.1 i (by omega)), g3.2 i (by omega)⟩)
  · exact he.fr (fun i _ _ => ⟨(fr i (by omega)).trans (g3.1 i (by omega)), g3.2 i (by omega)⟩)
  · exact ((fr 8 (by decide)).trans (g3.1 8 (by decide))).trans hC
  · exact g4.fr (fun i _ _ => ⟨fr i (by omega), rfl⟩)
  · have e : σ5.2 = σ2.2 := e5.trans (e4.trans e3)
    unfold gw_ro at g5
    rw [e]
    omega
set_option maxRecDepth 100000 in
/-- close() -/
theorem cl_close {q : Nat} (h : cl_P c1 c2 a D σ A S I F V G W k dp bg N col ev cr co) (hI : I 8 = nI n) (hn : n ≤ 48) (hup : mo_up (A 0) n) (hend : ∀ w, w < n → ∃ e, e ≤ n ∧ A 6 w = nI e) (hg : ¬ bg = 0 → G dp = -1 ∨ ∃ w, w < n ∧ G dp = nI w) (hq : (if W dp + 1 < 0 then 0 else W dp + 1) = nI q) (hq2 : q < 2 ^ 31) (kno : ¬ (¬ bg = 0 ∧ ¬ sc_req A n (G dp) q (cl_to A n (G dp))) → Q (some (.int 0)) σ)
    (kin : ∀ dp', dp = dp' + 1 → ¬ bg = 0 → ¬ sc_req A n (G dp) q (cl_to A n (G dp)) → ∀ (D' : Nat → Option ri_E) (σ' : ri_S), cl_P c1 c2 a D' σ' A S I F V G W k dp' bg N col ev cr co → cl_F a D a D' → Q (some (.int 1)) σ')
    (kout : dp = 0 → ¬ bg = 0 → ¬ sc_req A n (G dp) q (cl_to A n (G dp)) → ∀ (a' : Nat → Nat) (D' : Nat → Option ri_E) (σ' : ri_S), cl_P c1 c2 a' D' σ' A S I F V G W 0 0 0 N (tk_all A S F V k N n col).2 ev (cr + 1) (co + nI k) → cl_F a D a' D' → Q (some (.int 1)) σ') : ev_W (d + 62) mSt_close (0, [some (.ref (a 0)), none], []) σ Q := by
  obtain ⟨tk, ch, ho⟩ := h.o
  have hP := h.sc
  obtain ⟨hG, lf, lv, le, ln, C, tk', ch', -, hs, hd, -⟩ := id h
  refine g_get rfl rfl rfl ho rfl ?_
  refine g_get rfl rfl rfl (hG.at hd.1) rfl ?_
  refine g_br rfl rfl rfl rfl rfl rfl (fun g1 => ?_) (fun g1 => ?_)
  · exact g_rt rfl rfl rfl (kno (fun z => z.1 g1))
  refine g_get rfl rfl rfl ho rfl ?_
  refine g_clV rfl rfl rfl rfl (hG.at hd.1) rfl rfl rfl ?_
  refine dr_group hG hd ?_
  refine g_get rfl rfl rfl ho rfl ?_
  refine g_get rfl rfl rfl ho rfl ?_
  refine g_clV rfl rfl rfl rfl (hG.at hd.1) rfl rfl rfl ?_
  refine dr_newest hG hd ?_
  refine g_get rfl rfl rfl ho rfl ?_
  refine g_clV rfl rfl rfl rfl hP.1 rfl rfl rfl ?_
  have rest : ∀ x : Int32, x = cl_to A n (G dp) → ev_W (d + 62) mSt_close (42, [some (.ref (a 0)), some (.int (G dp))], [.int x, .int (W dp + 1), .int (G dp), .ref (a 60)]) σ Q := by
    intro x hx
    subst hx
    refine g_clV rfl rfl rfl rfl hP.1 rfl rfl rfl ?_
    refine sc_requires hP hn hI hq hq2 (fun z => ?_) (fun z => ?_)
    · refine g_br rfl rfl rfl rfl rfl rfl (fun h => absurd h (by decide)) (fun _ => ?_)
      exact g_rt rfl rfl rfl (kno (fun y => y.2 z))
    refine g_br rfl rfl rfl rfl rfl rfl (fun _ => ?_) (fun h => absurd rfl h)
    refine g_get rfl rfl rfl ho rfl ?_
    refine g_get rfl rfl rfl (hG.at hd.1) rfl ?_
    refine g_br rfl rfl rfl rfl rfl rfl (fun g2 => ?_) (fun g2 => ?_)
    · have hdp : dp = 0 := by
        rcases Nat.eq_zero_or_pos dp with y | y
        · exact y
        · exact absurd g2 (nI_nle y (by have := hd.2.2.2.2.2; omega))
      refine g_clV rfl rfl rfl rfl ho rfl rfl rfl ?_
      refine cl_keep h hI hn hup hend (fun a' D' σ' h1 h2 => ?_)
      exact g_rt rfl rfl rfl (kout hdp g1 z a' D' σ' h1 h2)
    · obtain ⟨dp', rfl⟩ : ∃ dp', dp = dp' + 1 := by
        rcases Nat.eq_zero_or_pos dp with y | y
        · exact absurd (by rw [y]; decide) g2
        · exact ⟨dp - 1, by omega⟩
      refine g_get rfl rfl rfl ho rfl ?_
      refine g_clV rfl rfl rfl rfl (hG.at hd.1) rfl rfl rfl ?_
      refine dr_leave hG hd (fun D1 σ1 h1 h2 h3 h4 => ?_)
      obtain ⟨e1, e2⟩ := h.ud hd h1 h2 h3 h4
      exact g_rt rfl rfl rfl (kin dp' rfl g1 z D1 σ1 e1 e2)
  refine sc_endOf hP hI hn (fun w hw e => ?_) (fun h0 => ?_)
  · refine rest _ ?_
    unfold cl_to
    rw [e, if_neg (nI_nm1 (by omega)), nI_clamp (by omega)]
  · refine rest _ ?_
    unfold cl_to
    rw [if_pos ((hg g1).resolve_right (fun ⟨w, hw, e⟩ => h0 w hw e))]
/-- the set of columns that assemble is given -/
def cl_ch (lo hi : Int32) : Int64 := (lo.toInt64 &&& 4294967295) ||| ((hi.toInt64 &&& 65535) <<< ((32 : Int32).toInt64 &&& 63))
set_option maxRecDepth 100000 in
/-- assemble(record, low, high) -/
theorem cl_assemble {r lo hi : Int32} (h : cl_P c1 c2 a D σ A S I F V G W k dp bg N col ev cr co) (hI : I 8 = nI n) (hn : n ≤ 48) (hend : ∀ w, w < n → ∃ e, e ≤ n ∧ A 6 w = nI e) (kno : (r < 0 ∨ cr ≤ r) → ∀ (D' : Nat → Option ri_E) (σ' : ri_S), cl_P c1 c2 a D' σ' A S I F V G W k dp bg N col [] cr co → cl_F a D a D' → Q (some (.int (-1))) σ')
    (kyes : ¬ (r < 0 ∨ cr ≤ r) → ∀ (a' : Nat → Nat) (D' : Nat → Option ri_E) (σ' : ri_S) (C : Nat → Int32), cl_P c1 c2 a' D' σ' A S I F V G W k dp bg N col (pu_all A S (cl_ch lo hi) N n col (pu_seek N col (cl_ch lo hi) r 48 0 C, [])).2 cr co → cl_F a D a' D' → Q (some (.int (nI (pu_all A S (cl_ch lo hi) N n col (pu_seek N col (cl_ch lo hi) r 48 0 C, [])).2.length))) σ') : ev_W (d + 61) mSt_assemble (0, [some (.ref (a 0)), some (.int r), some (.int lo), some (.int hi)], []) σ Q := by
  obtain ⟨hG, lf, lv, le, ln, C, tk, ch, ho, hs, hd, ⟨E, he, hE⟩, hC, hc, hr⟩ := h
  refine g_get rfl rfl rfl (hG.at ho) rfl ?_
  refine g_clV rfl rfl rfl rfl (hG.at he.1) rfl rfl rfl ?_
  refine es_clear hG he (fun D1 σ1 hG1 he1 hF1 e1 => ?_)
  have ho1 := (hF1 0 (by decide)).1.trans ho
  have hs1 : sh_P a D1 A S I := hs.fr (fun i _ _ => hF1 i (by omega))
  have hd1 : dr_P a D1 F V G W lf lv k dp bg := hd.fr (fun i _ _ => hF1 i (by omega))
  have hc1 : co_P a D1 N col ln := hc.fr (fun i _ _ => hF1 i (by omega))
  have hC1 := (hF1 8 (by decide)).1.trans hC
  have el1 : el_P a D1 [] le := ⟨E, he1, fun q e z => by cases z⟩
  have hno : ∀ tk ch, D1 0 = some (.inr (4, so_fs a cr co tk ch)) → cl_P c1 c2 a D1 σ1 A S I F V G W k dp bg N col [] cr co := fun tk ch z => ⟨hG1, lf, lv, le, ln, C, tk, ch, z, hs1, hd1, el1, hC1, hc1, by rw [e1]; exact hr⟩
  have hF0 : cl_F a D a D1 := ⟨fun i hi => hF1 i (by omega), rfl⟩
  refine g_br rfl rfl rfl rfl rfl rfl (fun g1 => ?_) (fun g1 => ?_)
  · exact g_rt rfl rfl rfl (kno (Or.inl g1) D1 σ1 (hno tk ch ho1) hF0)
  refine g_get rfl rfl rfl (hG1.at ho1) rfl ?_
  refine g_br rfl rfl rfl rfl rfl rfl (fun g2 => ?_) (fun g2 => ?_)
  rotate_left
  · exact g_rt rfl rfl rfl (kno (Or.inr (Int32.not_lt.mp g2)) D1 σ1 (hno tk ch ho1) hF0)
  refine gw_put hG1 ho1 rfl rfl rfl rfl rfl rfl (fun σ2 hG2 e2 => ?_)
  have ho2 : va_up D1 0 (some (.inr (4, (so_fs a cr co tk ch).set 8 (.long (cl_ch lo hi))))) 0 = some (.inr (4, so_fs a cr co tk (cl_ch lo hi))) := rfl
  have hF2 : gw_F 0 1 a D1 a (va_up D1 0 (some (.inr (4, (so_fs a cr co tk ch).set 8 (.long (cl_ch lo hi)))))) := gw_F.rf.up (by decide) (by decide)
  have hs2 := hs1.fr (fun i _ _ => hF2 i (by omega))
  have hc2 := hc1.fr (fun i _ _ => hF2 i (by omega))
  have hw2 : pw_P a _ σ2 le (C, []) a _ σ2 := ⟨hG2, ⟨fun _ _ => rfl, fun _ _ => rfl⟩, hC1, le, el1.fr (fun i _ _ => hF2 i (by omega)), gw_ro.rf rfl⟩
  refine g_clV rfl rfl rfl rfl (hw2.o ho2) rfl rfl rfl ?_
  refine ev_go 2 rfl ?_
  refine pu_seek_loop ho2 hc2 48 0 _ _ σ2 (by omega) hw2 (fun D3 σ3 hw3 => ?_)
  refine g_clV rfl rfl rfl rfl (hw3.o ho2) rfl rfl rfl ?_
  refine pu_putAll hs2 ho2 hc2 hI hn hend hw3 (fun a4 D4 σ4 hw4 => ?_)
  refine g_get rfl rfl rfl (hw4.o ho2) rfl ?_
  refine g_get rfl rfl rfl hw4.e rfl ?_
  have hdd := hd1.fr (fun i _ _ => hF2 i (by omega))
  obtain ⟨q1, q2, q3, le4, q4, q5⟩ := id hw4
  refine g_rt rfl rfl rfl (kyes (fun z => z.elim g1 (fun y => absurd g2 (Int32.not_lt.mpr y))) a4 D4 σ4 C ⟨q1, lf, lv, le4, ln, _, tk, cl_ch lo hi, ?_, ?_, ?_, q4, q3, hw4.cq hc2, ?_⟩ ⟨fun i hi => ⟨?_, ?_⟩, q2.2 0 (by decide)⟩)
  · rw [so_fr (fun i hi => q2.2 i (by omega))]
    exact (q2.1 0 (by decide)).trans ho2
  · exact hs2.fr (fun i _ _ => ⟨q2.1 i (by omega), q2.2 i (by omega)⟩)
  · exact hdd.fr (fun i _ _ => ⟨q2.1 i (by omega), q2.2 i (by omega)⟩)
  · unfold gw_ro at q5
    rw [e2, e1] at q5
    omega
  · exact (q2.1 i (by omega)).trans ((hF2 i (by omega)).1.trans (hF1 i (by omega)).1)
  · exact q2.2 i (by omega)
theorem gw_P.grid (h : gw_P a D σ) (n m s : Nat) : gw_P (fun i => if i = 11 then σ.2.1 else if 12 ≤ i ∧ i < 12 + n then σ.2.1 + 1 + (i - 12) else a i) (fun i => if i = 11 then some (.inl (.array .int, n, .inr (.inr (.inr (.inr (fun j => if j < n then some (σ.2.1 + 1 + j) else none)))))) else if 12 ≤ i ∧ i < 12 + n then some (.inl (.int, m, .inl fun _ => 0)) else D i) (ri_grid σ.1 σ.2.1 n m, σ.2.1 + 1 + n, s) := by
  refine ⟨fun i j hi hj hij => ?_, fun i e he => ?_⟩
  · have lt : ∀ q, ¬ q = 11 → ¬ (12 ≤ q ∧ q < 12 + n) → (if q = 11 then some (.inl (.array .int, n, .inr (.inr (.inr (.inr (fun j => if j < n then some (σ.2.1 + 1 + j) else none)))))) else if 12 ≤ q ∧ q < 12 + n then some (.inl (.int, m, .inl fun _ => 0)) else D q) ≠ none → D q ≠ none ∧ a q < σ.2.1 := fun q z1 z2 hq => by
      rw [if_neg z1, if_neg z2] at hq
      refine ⟨hq, ?_⟩
      cases hx : D q with
      | none => exact absurd hx hq
      | some x => exact h.lt hx
    dsimp only at hij
    by_cases y1 : i = 11
    · rw [if_pos y1] at hij
      by_cases y2 : j = 11
      · omega
      rw [if_neg y2] at hij
      by_cases y3 : 12 ≤ j ∧ j < 12 + n
      · rw [if_pos y3] at hij
        omega
      · rw [if_neg y3] at hij
        have := (lt j y2 y3 hj).2
        omega
    rw [if_neg y1] at hij
    by_cases y4 : 12 ≤ i ∧ i < 12 + n
    · rw [if_pos y4] at hij
      by_cases y2 : j = 11
      · rw [if_pos y2] at hij
        omega
      rw [if_neg y2] at hij
      by_cases y3 : 12 ≤ j ∧ j < 12 + n
      · rw [if_pos y3] at hij
        omega
      · rw [if_neg y3] at hij
        have := (lt j y2 y3 hj).2
        omega
    rw [if_neg y4] at hij
    have hi' := lt i y1 y4 hi
    by_cases y2 : j = 11
    · rw [if_pos y2] at hij
      omega
    rw [if_neg y2] at hij
    by_cases y3 : 12 ≤ j ∧ j < 12 + n
    · rw [if_pos y3] at hij
      omega
    · rw [if_neg y3] at hij
      exact h.1 i j hi'.1 (lt j y2 y3 hj).1 hij
  · dsimp only at he ⊢
    unfold ri_grid
    by_cases y1 : i = 11
    · rw [if_pos y1] at he ⊢
      rw [if_pos rfl]
      exact ⟨by omega, he⟩
    rw [if_neg y1] at he ⊢
    by_cases y2 : 12 ≤ i ∧ i < 12 + n
    · rw [if_pos y2] at he ⊢
      rw [if_neg (by omega), if_pos ⟨by omega, by omega⟩]
      exact ⟨by omega, he⟩
    · rw [if_neg y2] at he ⊢
      have := h.lt he
      rw [if_neg (by omega), if_neg (by omega)]
      exact ⟨by omega, h.at he⟩
theorem gw_putF {M : ri_M} {F : ri_F} {pc np tg : Nat} {kv : Int32} {L : List (Option Value)} {r : List Value} (hG : gw_P a D σ) {i k cj j : Nat} {ty : FieldType} {fs : List Value} {v : Value} (hd : D i = some (.inr (cj, fs))) (hgo : ri_go 99 M F = (pc, L, v :: .ref (a i) :: r)) (hf : ri_find pc M.2.2.2.2.2 = some (.putfield k, np, tg, kv)) (ht : rt_f M.1 k = some (cj, j, ty, 1)) (hi : M.2.1.name = "<init>") (hn : narrow ty v = v) (hfi : fits ty v = true) (hj : Nat.blt j fs.length = true) (kk : ∀ σ' : ri_S, gw_P a (va_up D i (some (.inr (cj, fs.set j v)))) σ' → σ'.2 = σ.2 → ev_W d M (np, L, r) σ' Q) : ev_W d M F σ Q := g_putF hgo hf ht hi (hG.at hd) hn hfi hj (kk _ (hG.set hd _) rfl)
set_option maxRecDepth 100000 in
/-- Columns(count) -/
theorem co_init (hG : gw_P a D σ) (h9 : D 9 = some (.inr (0, [.null, .null]))) {cnt : Int32} (hc : cnt = nI n) (hn : n ≤ 48) (kk : ∀ (a' : Nat → Nat) (D' : Nat → Option ri_E) (σ' : ri_S), gw_P a' D' σ' → co_P a' D' n (fun _ => []) (fun _ => 24) → (∀ i, (i < 9 ∨ 60 ≤ i) → D' i = D i) → (∀ i, (i < 10 ∨ 60 ≤ i) → a' i = a i) → σ'.2 = (σ.2.1 + 1 + 1 + n, σ.2.2 + n + n + n * 24) → Q none σ') : ev_W (d + 1) mCo_init (0, [some (.ref (a 9)), some (.int cnt), none], []) σ Q := by
  subst hc
  refine g_lf rfl rfl rfl rfl rfl ?_
  refine g_max rfl rfl rfl rfl rfl ?_
  rw [show (if nI n < 0 then 0 else nI n) = nI n from if_neg (nI_pos (by omega))]
  refine g_newi rfl rfl (nI_pos (by omega)) (nI_clamp (by omega)) (by omega) ?_
  have hG1 := hG.new 10 (.inl (.int, n, .inl fun _ => 0)) (σ.2.1 + 1) (σ.2.2 + n) (by omega)
  refine gw_putF hG1 (i := 9) h9 rfl rfl rfl rfl rfl rfl rfl (fun σ2 hG2 e2 => ?_)
  refine g_grid rfl rfl rfl (nI_pos (by omega)) (by decide) (nI_clamp (by omega)) (by decide : (24 : Int32).toNatClampNeg = 24) (by omega) (by omega) ?_
  have hG3 := hG2.grid n 24 (σ2.2.2 + n + n * 24)
  refine gw_putF hG3 (i := 9) rfl rfl rfl rfl rfl rfl rfl rfl (fun σ4 hG4 e4 => ?_)
  refine g_rt rfl rfl rfl (kk _ _ σ4 hG4 ⟨rfl, ⟨_, rfl, fun c hc => rfl⟩, ⟨_, rfl, fun c hc => ?_⟩, fun c hc => ⟨(fun _ => 0), ?_, ?_, ?_⟩, hn⟩ (fun i hi => ?_) (fun i hi => ?_) ?_)
  · show (if c < n then some (σ2.2.1 + 1 + c) else none) = some (if 12 + c = 11 then _ else if 12 ≤ 12 + c ∧ 12 + c < 12 + n then σ2.2.1 + 1 + (12 + c - 12) else _)
    rw [if_pos hc, if_neg (by omega), if_pos ⟨by omega, by omega⟩, Nat.add_sub_cancel_left]
  · exact (va_up_n (by omega)).trans ((if_neg (by omega)).trans (if_pos ⟨by omega, by omega⟩))
  · intro q e z
    cases z
  · show 3 * 0 ≤ 24 ∧ 24 ≤ 24 ∧ 24 ≤ 13056 ∧ 0 ≤ 2176
    decide
  · exact (va_up_n (by omega)).trans ((if_neg (by omega)).trans ((if_neg (by omega)).trans ((va_up_n (by omega)).trans (va_up_n (by omega)))))
  · exact (if_neg (by omega)).trans ((if_neg (by omega)).trans (va_up_n (by omega)))
  · rw [e4, e2]
theorem co_su_24 : ∀ n, co_su n (fun _ => 24) = n * 24
  | 0 => rfl
  | n + 1 => by
    show co_su n (fun _ => 24) + 24 = _
    rw [co_su_24 n, Nat.succ_mul]
set_option maxRecDepth 100000 in
/-- ready() -/
theorem cl_ready (h : cl_P c1 c2 a D σ A S I F V G W k dp bg N col ev cr co) (hI : I 8 = nI n) (hn : n ≤ 48) (hl : I 9 = nI lw) (hlw : lw ≤ 48) (hN : I 10 = 0 → N = 0) (kno : ¬ (I 10 = 0 ∧ 0 < n ∧ sc_full A n) → Q (some (.int (-1))) σ) (kyes : I 10 = 0 ∧ 0 < n ∧ sc_full A n → ∀ (a' : Nat → Nat) (D' : Nat → Option ri_E) (σ' : ri_S), cl_P c1 c2 a' D' σ' A S (va_up I 10 1) F V G W k dp bg lw (fun _ => []) ev cr co → cl_F a D a' D' → Q (some (.int (nI lw))) σ') : ev_W (d + 3) mSt_ready (0, [some (.ref (a 0))], []) σ Q := by
  obtain ⟨hG, lf, lv, le, ln, C, tk, ch, ho, hs, hd, he, hC, hc, hr⟩ := h
  have hP := hs.sc hG
  refine g_get rfl rfl rfl (hG.at ho) rfl ?_
  refine g_clV rfl rfl rfl rfl hP.1 rfl rfl rfl ?_
  refine sc_settle (σ0 := σ) ⟨hP, fun _ _ => rfl, rfl⟩ hn hI (fun z => ?_) (fun σ1 z hW => ?_)
  · refine g_br rfl rfl rfl rfl rfl rfl (fun _ => ?_) (fun h => absurd rfl h)
    exact g_rt rfl rfl rfl (kno z)
  obtain ⟨D1, hG1, hs1, hF1, e1⟩ := hs.up hG hW
  have ho1 := (hF1 0 (by decide)).1.trans ho
  have hP1 := hs1.sc hG1
  refine g_br rfl rfl rfl rfl rfl rfl (fun h => absurd h (by decide)) (fun _ => ?_)
  refine g_new rfl rfl rfl ?_
  have hG2 := hG1.new 9 (.inr (0, [.null, .null])) (σ1.2.1 + 1) (σ1.2.2 + 2) (by omega)
  have hs2 : sh_P (va_up a 9 σ1.2.1) (va_up D1 9 (some (.inr (0, [.null, .null])))) A S (va_up I 10 1) := hs1.fr (fun i _ _ => ⟨va_up_n (by omega), va_up_n (by omega)⟩)
  have hP2 := hs2.sc hG2
  refine g_get rfl rfl rfl (hG2.at (i := 0) ho1) rfl ?_
  refine g_get rfl rfl rfl hP2.1 rfl ?_
  refine g_clC rfl rfl rfl (Or.inl rfl) rfl rfl rfl rfl ?_
  refine co_init hG2 (va_up_s) (n := lw) hl hlw (fun a3 D3 σ3 hG3 hc3 hD3 ha3 e3 => ?_)
  have ho3 : D3 0 = some (.inr (4, so_fs a cr co tk ch)) := (hD3 0 (by decide)).trans ho1
  have a30 : a3 0 = a 0 := ha3 0 (by decide)
  have a39 : a3 9 = σ1.2.1 := ha3 9 (by decide)
  rw [← a30, ← a39]
  refine gw_put hG3 ho3 rfl rfl rfl rfl rfl rfl (fun σ4 hG4 e4 => ?_)
  have fr : ∀ i, ((1 ≤ i ∧ i < 9) ∨ 60 ≤ i) → va_up D3 0 (some (.inr (4, (so_fs a cr co tk ch).set 4 (.ref (a3 9))))) i = D1 i ∧ a3 i = a i := fun i hi => ⟨(va_up_n (by omega)).trans ((hD3 i (by omega)).trans (va_up_n (by omega))), (ha3 i (by omega)).trans (va_up_n (by omega))⟩
  have hs4 : sh_P a3 (va_up D3 0 (some (.inr (4, (so_fs a cr co tk ch).set 4 (.ref (a3 9)))))) A S (va_up I 10 1) := hs1.fr (fun i _ _ => fr i (by omega))
  have hP4 := hs4.sc hG4
  have ho4 : va_up D3 0 (some (.inr (4, (so_fs a cr co tk ch).set 4 (.ref (a3 9))))) 0 = some (.inr (4, so_fs a3 cr co tk ch)) := by
    rw [va_up_s]
    unfold so_fs
    rw [(fr 60 (by decide)).2, (fr 1 (by decide)).2, (fr 6 (by decide)).2, (fr 8 (by decide)).2]
    rfl
  refine g_get rfl rfl rfl (hG4.at ho4) rfl ?_
  refine g_get rfl rfl rfl hP4.1 rfl ?_
  refine g_rt rfl rfl rfl ?_
  rw [show va_up I 10 1 9 = nI lw from hl]
  refine kyes z a3 _ σ4 ⟨hG4, lf, lv, le, fun _ => 24, C, tk, ch, ho4, hs4, ?_, ?_, ?_, ?_, ?_⟩ ⟨fun i hi => ⟨(fr i (by omega)).1.trans (hF1 i (by omega)).1, (fr i (by omega)).2⟩, a30⟩
  · exact hd.fr (fun i _ _ => ⟨(fr i (by omega)).1.trans (hF1 i (by omega)).1, (fr i (by omega)).2⟩)
  · exact he.fr (fun i _ _ => ⟨(fr i (by omega)).1.trans (hF1 i (by omega)).1, (fr i (by omega)).2⟩)
  · exact ((fr 8 (by decide)).1.trans (hF1 8 (by decide)).1).trans hC
  · exact hc3.fr (fun i _ _ => ⟨va_up_n (by omega), rfl⟩)
  · rw [e4, e3, co_su_24, show (va_up I 10 1 10 : Int32) = 1 from rfl, if_neg (by decide), if_neg (by decide)]
    rw [if_pos z.1, if_pos z.1, hN z.1] at hr
    have e0 : co_su 0 ln = 0 := rfl
    rw [e0, ← e1] at hr
    show 24 * (σ1.2.1 + 1 + 1 + 1 + lw) + 0 ≤ _ ∧ σ1.2.2 + 2 + lw + lw + lw * 24 + 0 ≤ _
    omega
set_option maxRecDepth 100000 in
/-- a group comes where no record has begun -/
theorem cl_open' {f : Int32} (h : cl_P c1 c2 a D σ A S I F V G W k dp bg N col ev cr co) (hI : I 8 = nI n) (hn : n ≤ 48) (hbg : bg = 0) (kno : bg = 0 → Q (some (.int 0)) σ) : ev_W (d + 4) mSt_open (0, [some (.ref (a 0)), some (.int f)], []) σ Q := by
  obtain ⟨tk, ch, ho⟩ := h.o
  have hP := h.sc
  refine g_get rfl rfl rfl ho rfl ?_
  refine g_clV rfl rfl rfl rfl hP.1 rfl rfl rfl ?_
  refine sc_isGroup hP hI hn (fun w hw e h1 => ?_) (fun h0 => ?_)
  rotate_left
  · refine g_br rfl rfl rfl rfl rfl rfl (fun _ => ?_) (fun h => absurd rfl h)
    exact g_rt rfl rfl rfl (kno hbg)
  refine g_br rfl rfl rfl rfl rfl rfl (fun h => absurd h (by decide)) (fun _ => ?_)
  refine g_clV rfl rfl rfl rfl ho rfl rfl rfl ?_
  obtain ⟨hG, lf, lv, le, ln, C, tk', ch', -, hs, hd, -⟩ := id h
  refine g_get rfl rfl rfl ho rfl ?_
  refine g_get rfl rfl rfl (hG.at hd.1) rfl ?_
  refine g_br rfl rfl rfl rfl rfl rfl (fun g1 => ?_) (fun g1 => absurd hbg g1)
  refine g_rt rfl rfl rfl ?_
  refine g_br rfl rfl rfl rfl rfl rfl (fun _ => ?_) (fun h => absurd rfl h)
  exact g_rt rfl rfl rfl (kno hbg)
end CL2
end
section
/-! THE MAKING of Schema, Draft, Events, Striping; the reference's roles behind its making. -/
section MK
variable {a : Nat → Nat} {D : Nat → Option ri_E} {σ : ri_S} {d : Nat} {Q : Option Value → ri_S → Prop}
theorem gw_putF' {M : ri_M} {F : ri_F} {pc np tg : Nat} {kv : Int32} {L : List (Option Value)} {r : List Value} (hG : gw_P a D σ) {i k cj j p : Nat} {ty : FieldType} {fs : List Value} {v : Value} (hd : D i = some (.inr (cj, fs))) (hp : a i = p) (hgo : ri_go 99 M F = (pc, L, v :: .ref p :: r)) (hf : ri_find pc M.2.2.2.2.2 = some (.putfield k, np, tg, kv)) (ht : rt_f M.1 k = some (cj, j, ty, 1)) (hi : M.2.1.name = "<init>") (hn : narrow ty v = v) (hfi : fits ty v = true) (hj : Nat.blt j fs.length = true) (kk : ∀ σ' : ri_S, gw_P a (va_up D i (some (.inr (cj, fs.set j v)))) σ' → σ'.2 = σ.2 → ev_W d M (np, L, r) σ' Q) : ev_W d M F σ Q := by
  subst hp
  exact gw_putF hG hd hgo hf ht hi hn hfi hj kk
theorem gw_put' {M : ri_M} {F : ri_F} {pc np tg : Nat} {kv : Int32} {L : List (Option Value)} {r : List Value} (hG : gw_P a D σ) {i k cj j p : Nat} {ty : FieldType} {fs : List Value} {v : Value} (hd : D i = some (.inr (cj, fs))) (hp : a i = p) (hgo : ri_go 99 M F = (pc, L, v :: .ref p :: r)) (hf : ri_find pc M.2.2.2.2.2 = some (.putfield k, np, tg, kv)) (ht : rt_f M.1 k = some (cj, j, ty, 0)) (hn : narrow ty v = v) (hfi : fits ty v = true) (hj : Nat.blt j fs.length = true) (kk : ∀ σ' : ri_S, gw_P a (va_up D i (some (.inr (cj, fs.set j v)))) σ' → σ'.2 = σ.2 → ev_W d M (np, L, r) σ' Q) : ev_W d M F σ Q := by
  subst hp
  exact gw_put hG hd hgo hf ht hn hfi hj kk
/-- a new row of ints, put into object o's field j: role i -/
theorem mk_i {M : ri_M} {F : ri_F} {pc np tg np2 tg2 q sl : Nat} {kv kv2 x : Int32} {L : List (Option Value)} {r : List Value} (hG : gw_P a D σ) (i : Nat) {o kf cj j N fl : Nat} {fs : List Value} (ho : D o = some (.inr (cj, fs))) (hio : o ≠ i) (h1 : σ.2.1 = q) (h2 : σ.2.2 = sl) (hgo : ri_go 99 M F = (pc, L, .int x :: .ref (a o) :: r)) (hf : ri_find pc M.2.2.2.2.2 = some (.newarray .int, np, tg, kv)) (hx : ¬ x < 0) (hN : x.toNatClampNeg = N) (hb : N ≤ 67108864) (hf2 : ri_find np M.2.2.2.2.2 = some (.putfield kf, np2, tg2, kv2)) (hft : rt_f M.1 kf = some (cj, j, .array .int, fl)) (hfl : fl = 0 ∨ fl = 1 ∧ M.2.1.name = "<init>") (hj : Nat.blt j fs.length = true) (kk : ∀ σ' : ri_S, gw_P (va_up a i q) (va_up (va_up D i (some (.inl (.int, N, .inl fun _ => 0)))) o (some (.inr (cj, fs.set j (.ref q))))) σ' → σ'.2.1 = q + 1 → σ'.2.2 = sl + N → ev_W d M (np2, L, r) σ' Q) : ev_W d M F σ Q := by
  subst h1
  subst h2
  refine g_newi hgo hf hx hN hb ?_
  have hG1 := hG.new i (.inl (.int, N, .inl fun _ => 0)) (σ.2.1 + 1) (σ.2.2 + N) (by omega)
  have ho1 : va_up D i (some (.inl (.int, N, .inl fun _ => 0))) o = some (.inr (cj, fs)) := (va_up_n hio).trans ho
  have ea : va_up a i σ.2.1 o = a o := va_up_n hio
  have hc := hG1.at ho1
  rw [ea] at hc
  have hG2 := hG1.set ho1 (.inr (cj, fs.set j (.ref σ.2.1)))
  rw [ea] at hG2
  rcases hfl with rfl | ⟨rfl, hnm⟩
  · exact ev_put hf2 hft hc rfl rfl hj (kk _ hG2 rfl rfl)
  · exact ev_putF hf2 hft hnm hc rfl rfl hj (kk _ hG2 rfl rfl)
theorem mk_i' {M : ri_M} {F : ri_F} {pc np tg np2 tg2 q sl p : Nat} {kv kv2 x : Int32} {L : List (Option Value)} {r : List Value} (hG : gw_P a D σ) (i : Nat) {o kf cj j N fl : Nat} {fs : List Value} (ho : D o = some (.inr (cj, fs))) (hio : o ≠ i) (hp : a o = p) (h1 : σ.2.1 = q) (h2 : σ.2.2 = sl) (hgo : ri_go 99 M F = (pc, L, .int x :: .ref p :: r)) (hf : ri_find pc M.2.2.2.2.2 = some (.newarray .int, np, tg, kv)) (hx : ¬ x < 0) (hN : x.toNatClampNeg = N) (hb : N ≤ 67108864) (hf2 : ri_find np M.2.2.2.2.2 = some (.putfield kf, np2, tg2, kv2)) (hft : rt_f M.1 kf = some (cj, j, .array .int, fl)) (hfl : fl = 0 ∨ fl = 1 ∧ M.2.1.name = "<init>") (hj : Nat.blt j fs.length = true) (kk : ∀ σ' : ri_S, gw_P (va_up a i q) (va_up (va_up D i (some (.inl (.int, N, .inl fun _ => 0)))) o (some (.inr (cj, fs.set j (.ref q))))) σ' → σ'.2.1 = q + 1 → σ'.2.2 = sl + N → ev_W d M (np2, L, r) σ' Q) : ev_W d M F σ Q := by
  subst hp
  exact mk_i hG i ho hio h1 h2 hgo hf hx hN hb hf2 hft hfl hj kk
theorem mk_l {M : ri_M} {F : ri_F} {pc np tg np2 tg2 q sl : Nat} {kv kv2 x : Int32} {L : List (Option Value)} {r : List Value} (hG : gw_P a D σ) (i : Nat) {o kf cj j N fl : Nat} {fs : List Value} (ho : D o = some (.inr (cj, fs))) (hio : o ≠ i) (h1 : σ.2.1 = q) (h2 : σ.2.2 = sl) (hgo : ri_go 99 M F = (pc, L, .int x :: .ref (a o) :: r)) (hf : ri_find pc M.2.2.2.2.2 = some (.newarray .long, np, tg, kv)) (hx : ¬ x < 0) (hN : x.toNatClampNeg = N) (hb : N ≤ 67108864) (hf2 : ri_find np M.2.2.2.2.2 = some (.putfield kf, np2, tg2, kv2)) (hft : rt_f M.1 kf = some (cj, j, .array .long, fl)) (hfl : fl = 0 ∨ fl = 1 ∧ M.2.1.name = "<init>") (hj : Nat.blt j fs.length = true) (kk : ∀ σ' : ri_S, gw_P (va_up a i q) (va_up (va_up D i (some (.inl (.long, N, .inr (.inl fun _ => 0))))) o (some (.inr (cj, fs.set j (.ref q))))) σ' → σ'.2.1 = q + 1 → σ'.2.2 = sl + N → ev_W d M (np2, L, r) σ' Q) : ev_W d M F σ Q := by
  subst h1
  subst h2
  refine g_newl hgo hf hx hN hb ?_
  have hG1 := hG.new i (.inl (.long, N, .inr (.inl fun _ => 0))) (σ.2.1 + 1) (σ.2.2 + N) (by omega)
  have ho1 : va_up D i (some (.inl (.long, N, .inr (.inl fun _ => 0)))) o = some (.inr (cj, fs)) := (va_up_n hio).trans ho
  have ea : va_up a i σ.2.1 o = a o := va_up_n hio
  have hc := hG1.at ho1
  rw [ea] at hc
  have hG2 := hG1.set ho1 (.inr (cj, fs.set j (.ref σ.2.1)))
  rw [ea] at hG2
  rcases hfl with rfl | ⟨rfl, hnm⟩
  · exact ev_put hf2 hft hc rfl rfl hj (kk _ hG2 rfl rfl)
  · exact ev_putF hf2 hft hnm hc rfl rfl hj (kk _ hG2 rfl rfl)
set_option maxRecDepth 100000 in
/-- Schema() -/
theorem mk_schema {q sl : Nat} (hG : gw_P a D σ) (h0 : D 60 = some (.inr (3, [.null, .null, .null, .null, .null, .null, .null, .null, .int 0, .int 0, .int 0]))) (ha : a 60 = q) (h1 : σ.2.1 = q + 1) (h2 : σ.2.2 = sl) (kk : ∀ (a' : Nat → Nat) (D' : Nat → Option ri_E) (σ' : ri_S), gw_P a' D' σ' → sh_P a' D' (fun _ _ => 0) (fun _ => 0) (fun _ => 0) → gw_F 60 69 a D a' D' → a' 60 = a 60 → σ'.2.1 = q + 9 → σ'.2.2 = sl + 384 → Q none σ') : ev_W (d + 1) mSc_init (0, [some (.ref (a 60))], []) σ Q := by
  refine g_lf rfl rfl rfl rfl rfl ?_
  refine mk_i hG 61 h0 (by decide) h1 h2 rfl rfl (by decide) (N := 48) (by decide) (by decide) rfl rfl (Or.inr ⟨rfl, rfl⟩) rfl (fun σ1 hG1 e1 f1 => ?_)
  refine mk_i hG1 62 (o := 60) rfl (by decide) e1 f1 rfl rfl (by decide) (N := 48) (by decide) (by decide) rfl rfl (Or.inr ⟨rfl, rfl⟩) rfl (fun σ2 hG2 e2 f2 => ?_)
  refine mk_i hG2 63 (o := 60) rfl (by decide) e2 f2 rfl rfl (by decide) (N := 48) (by decide) (by decide) rfl rfl (Or.inr ⟨rfl, rfl⟩) rfl (fun σ3 hG3 e3 f3 => ?_)
  refine mk_i hG3 64 (o := 60) rfl (by decide) e3 f3 rfl rfl (by decide) (N := 48) (by decide) (by decide) rfl rfl (Or.inr ⟨rfl, rfl⟩) rfl (fun σ4 hG4 e4 f4 => ?_)
  refine mk_i hG4 65 (o := 60) rfl (by decide) e4 f4 rfl rfl (by decide) (N := 48) (by decide) (by decide) rfl rfl (Or.inr ⟨rfl, rfl⟩) rfl (fun σ5 hG5 e5 f5 => ?_)
  refine mk_i hG5 66 (o := 60) rfl (by decide) e5 f5 rfl rfl (by decide) (N := 48) (by decide) (by decide) rfl rfl (Or.inr ⟨rfl, rfl⟩) rfl (fun σ6 hG6 e6 f6 => ?_)
  refine mk_i hG6 67 (o := 60) rfl (by decide) e6 f6 rfl rfl (by decide) (N := 48) (by decide) (by decide) rfl rfl (Or.inr ⟨rfl, rfl⟩) rfl (fun σ7 hG7 e7 f7 => ?_)
  refine mk_l hG7 68 (o := 60) rfl (by decide) e7 f7 rfl rfl (by decide) (N := 48) (by decide) (by decide) rfl rfl (Or.inr ⟨rfl, rfl⟩) rfl (fun σ8 hG8 e8 f8 => ?_)
  refine g_rt rfl rfl rfl (kk _ _ σ8 hG8 ⟨fun k hk => ?_, ?_, fun k hk => ?_, rfl⟩ (fun i hi => ⟨?_, ?_⟩) rfl (by omega) (by omega))
  · match k, hk with
    | 0, _ => rfl
    | 1, _ => exact (show q + 1 = a 60 + 1 by omega)
    | 2, _ => exact (show q + 1 + 1 = a 60 + 2 by omega)
    | 3, _ => exact (show q + 1 + 1 + 1 = a 60 + 3 by omega)
    | 4, _ => exact (show q + 1 + 1 + 1 + 1 = a 60 + 4 by omega)
    | 5, _ => exact (show q + 1 + 1 + 1 + 1 + 1 = a 60 + 5 by omega)
    | 6, _ => exact (show q + 1 + 1 + 1 + 1 + 1 + 1 = a 60 + 6 by omega)
    | 7, _ => exact (show q + 1 + 1 + 1 + 1 + 1 + 1 + 1 = a 60 + 7 by omega)
    | 8, _ => exact (show q + 1 + 1 + 1 + 1 + 1 + 1 + 1 + 1 = a 60 + 8 by omega)
  · show some (Sum.inr (3, [Value.ref (q + 1), Value.ref (q + 1 + 1), Value.ref (q + 1 + 1 + 1), Value.ref (q + 1 + 1 + 1 + 1), Value.ref (q + 1 + 1 + 1 + 1 + 1), Value.ref (q + 1 + 1 + 1 + 1 + 1 + 1), Value.ref (q + 1 + 1 + 1 + 1 + 1 + 1 + 1), Value.ref (q + 1 + 1 + 1 + 1 + 1 + 1 + 1 + 1), .int 0, .int 0, .int 0])) = some (Sum.inr (3, sc_fs (a 60) _))
    rw [ha]
    rfl
  · match k, hk with
    | 0, _ => rfl
    | 1, _ => rfl
    | 2, _ => rfl
    | 3, _ => rfl
    | 4, _ => rfl
    | 5, _ => rfl
    | 6, _ => rfl
  · exact (va_up_n (by omega)).trans <| (va_up_n (by omega)).trans <| (va_up_n (by omega)).trans <| (va_up_n (by omega)).trans <| (va_up_n (by omega)).trans <| (va_up_n (by omega)).trans <| (va_up_n (by omega)).trans <| (va_up_n (by omega)).trans <| (va_up_n (by omega)).trans <| (va_up_n (by omega)).trans <| (va_up_n (by omega)).trans <| (va_up_n (by omega)).trans <| (va_up_n (by omega)).trans <| (va_up_n (by omega)).trans <| (va_up_n (by omega)).trans <| va_up_n (by omega)
  · exact (va_up_n (by omega)).trans <| (va_up_n (by omega)).trans <| (va_up_n (by omega)).trans <| (va_up_n (by omega)).trans <| (va_up_n (by omega)).trans <| (va_up_n (by omega)).trans <| (va_up_n (by omega)).trans <| va_up_n (by omega)
set_option maxRecDepth 100000 in
/-- Draft() -/
theorem mk_draft {q sl : Nat} (hG : gw_P a D σ) (h0 : D 1 = some (.inr (1, [.null, .null, .null, .null, .int 0, .int 0, .int 0]))) (h1 : σ.2.1 = q) (h2 : σ.2.2 = sl) (kk : ∀ (a' : Nat → Nat) (D' : Nat → Option ri_E) (σ' : ri_S), gw_P a' D' σ' → dr_P a' D' (fun _ => 0) (fun _ => 0) (fun _ => 0) (fun _ => 0) 32 32 0 0 0 → gw_F 1 6 a D a' D' → a' 1 = a 1 → σ'.2.1 = q + 4 → σ'.2.2 = sl + 98 → Q none σ') : ev_W (d + 1) mDr_init (0, [some (.ref (a 1))], []) σ Q := by
  refine g_lf rfl rfl rfl rfl rfl ?_
  refine mk_i hG 2 h0 (by decide) h1 h2 rfl rfl (by decide) (N := 17) (by decide) (by decide) rfl rfl (Or.inr ⟨rfl, rfl⟩) rfl (fun σ1 hG1 e1 f1 => ?_)
  refine mk_i hG1 3 (o := 1) rfl (by decide) e1 f1 rfl rfl (by decide) (N := 17) (by decide) (by decide) rfl rfl (Or.inr ⟨rfl, rfl⟩) rfl (fun σ2 hG2 e2 f2 => ?_)
  refine mk_i hG2 4 (o := 1) rfl (by decide) e2 f2 rfl rfl (by decide) (N := 32) (by decide) (by decide) rfl rfl (Or.inl rfl) rfl (fun σ3 hG3 e3 f3 => ?_)
  refine mk_i hG3 5 (o := 1) rfl (by decide) e3 f3 rfl rfl (by decide) (N := 32) (by decide) (by decide) rfl rfl (Or.inl rfl) rfl (fun σ4 hG4 e4 f4 => ?_)
  refine g_rt rfl rfl rfl (kk _ _ σ4 hG4 ⟨rfl, rfl, rfl, rfl, rfl, by decide, by decide, by decide, by decide, by decide, by decide, by decide, by decide, Or.inl rfl⟩ (fun i hi => ⟨?_, ?_⟩) rfl (by omega) (by omega))
  · exact (va_up_n (by omega)).trans <| (va_up_n (by omega)).trans <| (va_up_n (by omega)).trans <| (va_up_n (by omega)).trans <| (va_up_n (by omega)).trans <| (va_up_n (by omega)).trans <| (va_up_n (by omega)).trans <| va_up_n (by omega)
  · exact (va_up_n (by omega)).trans <| (va_up_n (by omega)).trans <| (va_up_n (by omega)).trans <| va_up_n (by omega)
set_option maxRecDepth 100000 in
/-- Events() -/
theorem mk_events {q sl : Nat} (hG : gw_P a D σ) (h0 : D 6 = some (.inr (2, [.null, .int 0]))) (h1 : σ.2.1 = q) (h2 : σ.2.2 = sl) (kk : ∀ (a' : Nat → Nat) (D' : Nat → Option ri_E) (σ' : ri_S), gw_P a' D' σ' → el_P a' D' [] 64 → gw_F 6 8 a D a' D' → a' 6 = a 6 → σ'.2.1 = q + 1 → σ'.2.2 = sl + 64 → Q none σ') : ev_W (d + 1) mEv_init (0, [some (.ref (a 6))], []) σ Q := by
  refine g_lf rfl rfl rfl rfl rfl ?_
  refine mk_i hG 7 h0 (by decide) h1 h2 rfl rfl (by decide) (N := 64) (by decide) (by decide) rfl rfl (Or.inl rfl) rfl (fun σ1 hG1 e1 f1 => ?_)
  refine g_rt rfl rfl rfl (kk _ _ σ1 hG1 ⟨_, ⟨rfl, rfl, by decide⟩, fun q e z => by cases z⟩ (fun i hi => ⟨?_, ?_⟩) rfl e1 f1)
  · exact (va_up_n (by omega)).trans <| va_up_n (by omega)
  · exact va_up_n (by omega)
/-- a new object: role i -/
theorem mk_new {M : ri_M} {F : ri_F} {pc np tg : Nat} {kv : Int32} {L : List (Option Value)} {r : List Value} (hG : gw_P a D σ) (i : Nat) {k cj q sl : Nat} {fs : List Value} (h1 : σ.2.1 = q) (h2 : σ.2.2 = sl) (hgo : ri_go 99 M F = (pc, L, r)) (hf : ri_find pc M.2.2.2.2.2 = some (.new k, np, tg, kv)) (ht : rt_n M.1 k = some (cj, fs)) (kk : ∀ σ' : ri_S, gw_P (va_up a i q) (va_up D i (some (.inr (cj, fs)))) σ' → σ'.2.1 = q + 1 → σ'.2.2 = sl + fs.length → ev_W d M (np, L, .ref q :: r) σ' Q) : ev_W d M F σ Q := by
  subst h1
  subst h2
  exact g_new hgo hf ht (kk _ (hG.new i _ _ _ (by omega)) rfl rfl)
set_option maxRecDepth 100000 in
/-- Striping() -/
theorem mk_striping {q sl : Nat} (hG : gw_P a D σ) (h0 : D 0 = some (.inr (4, [.null, .null, .null, .null, .null, .int 0, .int 0, .int 0, .long 0]))) (h1 : σ.2.1 = q) (h2 : σ.2.2 = sl) (kk : ∀ (a' : Nat → Nat) (D' : Nat → Option ri_E) (σ' : ri_S), gw_P a' D' σ' → D' 0 = some (.inr (4, so_fs a' 0 0 0 0)) → sh_P a' D' (fun _ _ => 0) (fun _ => 0) (fun _ => 0) → dr_P a' D' (fun _ => 0) (fun _ => 0) (fun _ => 0) (fun _ => 0) 32 32 0 0 0 → el_P a' D' [] 64 → D' 8 = some (.inl (.int, 48, .inl fun _ => 0)) → co_P a' D' 0 (fun _ => []) (fun _ => 24) → (∀ i, 69 ≤ i → D' i = D i ∧ a' i = a i) → a' 0 = a 0 → σ'.2.1 = q + 20 → σ'.2.2 = sl + 616 → Q none σ') : ev_W (d + 2) mSt_init (0, [some (.ref (a 0))], []) σ Q := by
  refine g_lf rfl rfl rfl rfl rfl ?_
  refine mk_new hG 60 h1 h2 rfl rfl rfl (fun σ1 hG1 e1 f1 => ?_)
  refine g_clC rfl rfl rfl (Or.inr rfl) rfl rfl rfl rfl ?_
  refine mk_schema (q := q) hG1 rfl rfl e1 f1 (fun a2 D2 σ2 hG2 hs2 hF2 ha2 e2 f2 => ?_)
  have h02 : D2 0 = some (.inr (4, [.null, .null, .null, .null, .null, .int 0, .int 0, .int 0, .long 0])) := (hF2 0 (by decide)).1.trans h0
  have a20 : a2 0 = a 0 := (hF2 0 (by decide)).2
  refine gw_putF' hG2 h02 a20 rfl rfl rfl rfl rfl rfl rfl (fun σ3 hG3 e3 => ?_)
  refine mk_new hG3 1 ((congrArg Prod.fst e3).trans e2) ((congrArg Prod.snd e3).trans f2) rfl rfl rfl (fun σ4 hG4 e4 f4 => ?_)
  refine g_clC rfl rfl rfl (Or.inr rfl) rfl rfl rfl rfl ?_
  refine mk_draft hG4 rfl e4 f4 (fun a5 D5 σ5 hG5 hd5 hF5 ha5 e5 f5 => ?_)
  have h05 := (hF5 0 (by decide)).1
  have a50 : a5 0 = a 0 := (hF5 0 (by decide)).2.trans a20
  refine gw_putF' hG5 h05 a50 rfl rfl rfl rfl rfl rfl rfl (fun σ6 hG6 e6 => ?_)
  refine mk_new hG6 6 ((congrArg Prod.fst e6).trans e5) ((congrArg Prod.snd e6).trans f5) rfl rfl rfl (fun σ7 hG7 e7 f7 => ?_)
  refine g_clC rfl rfl rfl (Or.inr rfl) rfl rfl rfl rfl ?_
  refine mk_events hG7 rfl e7 f7 (fun a8 D8 σ8 hG8 he8 hF8 ha8 e8 f8 => ?_)
  have h08 := (hF8 0 (by decide)).1
  have a80 : a8 0 = a 0 := (hF8 0 (by decide)).2.trans a50
  refine gw_putF' hG8 h08 a80 rfl rfl rfl rfl rfl rfl rfl (fun σ9 hG9 e9 => ?_)
  refine mk_i' hG9 8 (o := 0) rfl (by decide) a80 ((congrArg Prod.fst e9).trans e8) ((congrArg Prod.snd e9).trans f8) rfl rfl (by decide) (N := 48) (by decide) (by decide) rfl rfl (Or.inr ⟨rfl, rfl⟩) rfl (fun σ10 hG10 e10 f10 => ?_)
  refine mk_new hG10 9 e10 f10 rfl rfl rfl (fun σ11 hG11 e11 f11 => ?_)
  refine g_clC rfl rfl rfl (Or.inl rfl) rfl rfl rfl rfl ?_
  refine co_init (n := 0) hG11 rfl rfl (by decide) (fun a12 D12 σ12 hG12 hc12 hD12 ha12 e12 => ?_)
  have h012 := hD12 0 (by decide)
  have a120 : a12 0 = a 0 := (ha12 0 (by decide)).trans a80
  refine gw_put' hG12 h012 a120 rfl rfl rfl rfl rfl rfl (fun σ13 hG13 e13 => ?_)
  have fr : ∀ i, i ≠ 0 → i ≠ 1 → i ≠ 6 → i ≠ 8 → (i < 9 ∨ 60 ≤ i) → True := fun _ _ _ _ _ _ => trivial
  have b60 : a12 60 = q := (ha12 60 (by decide)).trans ((hF8 60 (by decide)).2.trans ((hF5 60 (by decide)).2.trans ha2))
  have b1 : a12 1 = q + 9 := (ha12 1 (by decide)).trans ((hF8 1 (by decide)).2.trans ha5)
  have b6 : a12 6 = q + 9 + 1 + 4 := (ha12 6 (by decide)).trans ha8
  have b8 : a12 8 = q + 9 + 1 + 4 + 1 + 1 := ha12 8 (by decide)
  have b9 : a12 9 = q + 9 + 1 + 4 + 1 + 1 + 1 := ha12 9 (by decide)
  refine g_rt rfl rfl rfl (kk a12 _ σ13 hG13 ?_ ?_ ?_ ?_ ?_ ?_ (fun i hi => ⟨?_, ?_⟩) a120 ?_ ?_)
  · unfold so_fs
    rw [b60, b1, b6, b8, b9]
    rfl
  · refine hs2.fr (fun i g1 g2 => ⟨?_, ?_⟩)
    · exact (va_up_n (by omega)).trans ((hD12 i (by omega)).trans ((va_up_n (by omega)).trans ((va_up_n (by omega)).trans ((va_up_n (by omega)).trans ((va_up_n (by omega)).trans ((hF8 i (by omega)).1.trans ((va_up_n (by omega)).trans ((va_up_n (by omega)).trans ((hF5 i (by omega)).1.trans ((va_up_n (by omega)).trans (va_up_n (by omega))))))))))))
    · exact (ha12 i (by omega)).trans ((va_up_n (by omega)).trans ((va_up_n (by omega)).trans ((hF8 i (by omega)).2.trans ((va_up_n (by omega)).trans ((hF5 i (by omega)).2.trans (va_up_n (by omega)))))))
  · refine hd5.fr (fun i g1 g2 => ⟨?_, ?_⟩)
    · exact (va_up_n (by omega)).trans ((hD12 i (by omega)).trans ((va_up_n (by omega)).trans ((va_up_n (by omega)).trans ((va_up_n (by omega)).trans ((va_up_n (by omega)).trans ((hF8 i (by omega)).1.trans ((va_up_n (by omega)).trans (va_up_n (by omega)))))))))
    · exact (ha12 i (by omega)).trans ((va_up_n (by omega)).trans ((va_up_n (by omega)).trans ((hF8 i (by omega)).2.trans (va_up_n (by omega)))))
  · refine he8.fr (fun i g1 g2 => ⟨?_, ?_⟩)
    · exact (va_up_n (by omega)).trans ((hD12 i (by omega)).trans ((va_up_n (by omega)).trans ((va_up_n (by omega)).trans ((va_up_n (by omega)).trans (va_up_n (by omega))))))
    · exact (ha12 i (by omega)).trans ((va_up_n (by omega)).trans (va_up_n (by omega)))
  · exact (va_up_n (by decide)).trans ((hD12 8 (by decide)).trans rfl)
  · exact hc12.fr (fun i g1 g2 => ⟨va_up_n (by omega), rfl⟩)
  · exact (va_up_n (by omega)).trans ((hD12 i (by omega)).trans ((va_up_n (by omega)).trans ((va_up_n (by omega)).trans ((va_up_n (by omega)).trans ((va_up_n (by omega)).trans ((hF8 i (by omega)).1.trans ((va_up_n (by omega)).trans ((va_up_n (by omega)).trans ((hF5 i (by omega)).1.trans ((va_up_n (by omega)).trans ((va_up_n (by omega)).trans ((hF2 i (by omega)).1.trans (va_up_n (by omega))))))))))))))
  · exact (ha12 i (by omega)).trans ((va_up_n (by omega)).trans ((va_up_n (by omega)).trans ((hF8 i (by omega)).2.trans ((va_up_n (by omega)).trans ((hF5 i (by omega)).2.trans ((va_up_n (by omega)).trans ((hF2 i (by omega)).2.trans (va_up_n (by omega)))))))))
  · rw [e13, e12, e11]
  · rw [e13, e12, f11]
    show sl + 11 + 384 + 7 + 98 + 2 + 64 + 48 + 2 + 0 + 0 + 0 * 24 = sl + 616
    omega
/-- the reference's roles -/
theorem gw_P.mo {o : Nat} {A : Nat → Nat → Int32} {I : Nat → Int32} {σ' : ri_S} (h : gw_P a D σ) (ho : σ.2.1 = o) (hm : mo_P o A I σ'.1) (hl : ∀ q, q < o → σ'.1 q = σ.1 q) (hn : σ'.2.1 = o + 14) : ∃ (a' : Nat → Nat) (D' : Nat → Option ri_E), gw_P a' D' σ' ∧ mh_P a' D' A I ∧ a' 70 = o ∧ ∀ i, (i < 70 ∨ 84 ≤ i) → D' i = D i ∧ a' i = a i := by
  subst ho
  have lt : ∀ q, ¬ (70 ≤ q ∧ q < 84) → (if q = 70 then some (.inr (5, mo_fs σ.2.1 I)) else if 71 ≤ q ∧ q < 84 then some (.inl (mo_ty (q - 71), mo_len (q - 71), .inl (A (q - 71)))) else D q) ≠ none → D q ≠ none ∧ a q < σ.2.1 := fun q z hq => by
    rw [if_neg (by omega), if_neg (by omega)] at hq
    refine ⟨hq, ?_⟩
    cases hx : D q with
    | none => exact absurd hx hq
    | some x => exact h.lt hx
  refine ⟨fun i => if 70 ≤ i ∧ i < 84 then σ.2.1 + (i - 70) else a i, fun i => if i = 70 then some (.inr (5, mo_fs σ.2.1 I)) else if 71 ≤ i ∧ i < 84 then some (.inl (mo_ty (i - 71), mo_len (i - 71), .inl (A (i - 71)))) else D i, ⟨fun i j hi hj hij => ?_, fun i e he => ?_⟩, ⟨fun k hk => ?_, ?_, fun k hk => ?_⟩, rfl, fun i hi => ⟨(if_neg (by omega)).trans (if_neg (by omega)), if_neg (by omega)⟩⟩
  · dsimp only at hij
    by_cases y1 : 70 ≤ i ∧ i < 84
    · rw [if_pos y1] at hij
      by_cases y2 : 70 ≤ j ∧ j < 84
      · rw [if_pos y2] at hij
        omega
      · rw [if_neg y2] at hij
        have := (lt j y2 hj).2
        omega
    · rw [if_neg y1] at hij
      by_cases y2 : 70 ≤ j ∧ j < 84
      · rw [if_pos y2] at hij
        have := (lt i y1 hi).2
        omega
      · rw [if_neg y2] at hij
        exact h.1 i j (lt i y1 hi).1 (lt j y2 hj).1 hij
  · dsimp only at he ⊢
    by_cases y0 : i = 70
    · rw [if_pos y0] at he
      rw [if_pos (by omega), show σ.2.1 + (i - 70) = σ.2.1 by omega, hn, ← he]
      exact ⟨by omega, hm.1⟩
    rw [if_neg y0] at he
    by_cases y1 : 71 ≤ i ∧ i < 84
    · rw [if_pos y1] at he
      rw [if_pos (by omega), show σ.2.1 + (i - 70) = σ.2.1 + 1 + (i - 71) by omega, hn, ← he]
      exact ⟨by omega, hm.2 (i - 71) (by omega)⟩
    · rw [if_neg y1] at he
      have := h.lt he
      rw [if_neg (by omega), hn, hl _ this]
      exact ⟨by omega, h.at he⟩
  · show (if 70 ≤ 70 + k ∧ 70 + k < 84 then σ.2.1 + (70 + k - 70) else a (70 + k)) = σ.2.1 + 0 + k
    rw [if_pos (by omega)]
    omega
  · rfl
  · show (if 71 + k = 70 then _ else if 71 ≤ 71 + k ∧ 71 + k < 84 then _ else _) = _
    rw [if_neg (by omega), if_pos (by omega), Nat.add_sub_cancel_left]
end MK
end
section
/-! LINKS, 1: the groups around a field, and the two schemas. li_an par m f w: w is on the way from f up, in m steps; li_en: the way ends in m steps. -/
def li_an (par : Nat → Int32) : Nat → Int32 → Nat → Prop
  | 0, _, _ => False
  | m + 1, f, w => ¬ f = -1 ∧ (f.toNatClampNeg = w ∨ li_an par m (par f.toNatClampNeg) w)
def li_en (par : Nat → Int32) : Nat → Int32 → Prop
  | 0, f => f = -1
  | m + 1, f => f = -1 ∨ li_en par m (par f.toNatClampNeg)
theorem li_en_s {par : Nat → Int32} : ∀ (m : Nat) (f : Int32), li_en par m f → li_en par (m + 1) f
  | 0, _, h => Or.inl h
  | m + 1, _, h => h.elim Or.inl (fun z => Or.inr (li_en_s m _ z))
theorem li_en_le {par : Nat → Int32} {m : Nat} {f : Int32} (h : li_en par m f) : ∀ k, li_en par (m + k) f
  | 0 => h
  | k + 1 => li_en_s (m + k) f (li_en_le h k)
theorem li_an_s {par : Nat → Int32} : ∀ (m : Nat) (f : Int32) (w : Nat), li_en par m f → (li_an par (m + 1) f w ↔ li_an par m f w)
  | 0, _, _, h => ⟨fun z => absurd h z.1, fun z => z.elim⟩
  | m + 1, _, w, h => ⟨fun z => ⟨z.1, z.2.imp id (fun y => (li_an_s m _ w (Or.resolve_left h z.1)).mp y)⟩, fun z => ⟨z.1, z.2.imp id (fun y => (li_an_s m _ w (Or.resolve_left h z.1)).mpr y)⟩⟩
theorem li_an_le {par : Nat → Int32} {m : Nat} {f : Int32} {w : Nat} (h : li_en par m f) : ∀ k, li_an par (m + k) f w ↔ li_an par m f w
  | 0 => Iff.rfl
  | k + 1 => (li_an_s (m + k) f w (li_en_le h k)).trans (li_an_le h k)
theorem li_an_eq {par : Nat → Int32} {m k : Nat} {f : Int32} {w : Nat} (h : li_en par m f) (h2 : li_en par k f) : li_an par m f w ↔ li_an par k f w := by
  rw [← li_an_le h k, ← li_an_le h2 m, Nat.add_comm]
theorem li_en_up {par : Nat → Int32} {n : Nat} (hup : mo_up par n) (hn : n ≤ 48) : ∀ (m : Nat) (f : Int32), (f = -1 ∨ ∃ p, p < m ∧ f = nI p) → m ≤ n → li_en par m f
  | 0, _, h, _ => h.resolve_right (fun ⟨_, z, _⟩ => absurd z (Nat.not_lt_zero _))
  | m + 1, _, h, hm => by
    rcases h with z | ⟨p, hp, z⟩
    · exact Or.inl z
    · refine Or.inr ?_
      rw [z, nI_clamp (by omega)]
      refine li_en_up hup hn m _ ?_ (by omega)
      rcases hup p (by omega) with y | ⟨q, hq, y⟩
      · exact Or.inl y
      · exact Or.inr ⟨q, by omega, y⟩
theorem li_en_48 {par : Nat → Int32} {n q : Nat} (hup : mo_up par n) (hn : n ≤ 48) (hq : q < n) : li_en par 48 (nI q) := by
  have := li_en_le (li_en_up hup hn n (nI q) (Or.inr ⟨q, hq, rfl⟩) (Nat.le_refl _)) (48 - n)
  rw [show n + (48 - n) = 48 by omega] at this
  exact this
theorem li_en_de {par dep : Nat → Int32} {n : Nat} (hde : mo_de par dep n) (hn : n ≤ 48) : ∀ (k q : Nat), q < n → dep q = nI k → k ≤ 16 → li_en par k (nI q)
  | 0, q, hq, h, _ => by
    obtain ⟨k, hk, e, -⟩ := hde q hq
    have := (nI_eq (a := 0) (by decide) (by omega)).mp (h.symm.trans e)
    omega
  | k + 1, q, hq, h, hk => by
    obtain ⟨k2, hk2, e, z⟩ := hde q hq
    have ek : k + 1 = k2 + 1 := (nI_eq (by omega) (by omega)).mp (h.symm.trans e)
    obtain rfl : k2 = k := by omega
    refine Or.inr ?_
    rw [nI_clamp (by omega)]
    rcases z with ⟨z1, z2⟩ | ⟨p, hp, z1, z2, z3⟩
    · rw [z1, z2]; exact rfl
    · rw [z1]
      exact li_en_de hde hn k2 p (by omega) z3 (by omega)
/-- the reference's way of asking -/
theorem li_ch {par : Nat → Int32} {n w : Nat} (hup : mo_up par n) (hn : n ≤ 48) (hw : w < 48) : ∀ (m : Nat) (f : Int32), (f = -1 ∨ ∃ p, p < m ∧ f = nI p) → m ≤ n → (mo_ch par (nI w) m f = nI w ↔ li_an par m f w)
  | 0, f, h, _ => by
    have e : f = -1 := h.resolve_right (fun ⟨_, z, _⟩ => absurd z (Nat.not_lt_zero _))
    rw [e]
    exact ⟨fun z => absurd z.symm (nI_nm1 (by omega)), fun z => z.elim⟩
  | m + 1, f, h, hm => by
    show (if f = -1 ∨ f = nI w then f else mo_ch par (nI w) m (par f.toNatClampNeg)) = nI w ↔ ¬ f = -1 ∧ (f.toNatClampNeg = w ∨ li_an par m (par f.toNatClampNeg) w)
    rcases h with z | ⟨p, hp, z⟩
    · rw [if_pos (Or.inl z), z]
      exact ⟨fun y => absurd y.symm (nI_nm1 (by omega)), fun y => absurd rfl y.1⟩
    · subst z
      rw [nI_clamp (by omega)]
      by_cases y : nI p = nI w
      · rw [if_pos (Or.inr y)]
        exact ⟨fun _ => ⟨nI_nm1 (by omega), Or.inl ((nI_eq (by omega) (by omega)).mp y)⟩, fun _ => y⟩
      · rw [if_neg (fun q => q.elim (nI_nm1 (by omega)) y), li_ch hup hn hw m (par p) ?_ (by omega)]
        · refine ⟨fun q => ⟨nI_nm1 (by omega), Or.inr q⟩, fun q => q.2.resolve_left (fun r => y (by rw [r]))⟩
        · rcases hup p (by omega) with q | ⟨g, hg, q⟩
          · exact Or.inl q
          · exact Or.inr ⟨g, by omega, q⟩
/-- what stretch does to the ends -/
theorem li_st {par : Nat → Int32} {v : Int32} {s : Int64} : ∀ (m : Nat) (f : Int32) (x : (Nat → Int32) × (Nat → Int64)), (∀ g, li_an par m f g → (sc_st par v s m f x).1 g = v) ∧ (∀ g, ¬ li_an par m f g → (sc_st par v s m f x).1 g = x.1 g)
  | 0, _, _ => ⟨fun _ z => z.elim, fun _ _ => rfl⟩
  | m + 1, f, x => by
    have eS : sc_st par v s (m + 1) f x = if f = -1 then x else sc_st par v s m (par f.toNatClampNeg) (upd x.1 f.toNatClampNeg v, vp_updL x.2 f.toNatClampNeg (x.2 f.toNatClampNeg ||| s)) := rfl
    rw [eS]
    by_cases z : f = -1
    · rw [if_pos z]
      exact ⟨fun g y => absurd z y.1, fun _ _ => rfl⟩
    · rw [if_neg z]
      obtain ⟨h1, h2⟩ := li_st (par := par) (v := v) (s := s) m (par f.toNatClampNeg) (upd x.1 f.toNatClampNeg v, vp_updL x.2 f.toNatClampNeg (x.2 f.toNatClampNeg ||| s))
      refine ⟨fun g y => ?_, fun g y => ?_⟩
      · by_cases q : li_an par m (par f.toNatClampNeg) g
        · exact h1 g q
        · rw [h2 g q]
          exact if_pos (y.2.resolve_right q).symm
      · rw [h2 g (fun q => y ⟨z, Or.inr q⟩)]
        exact if_neg (fun q => y ⟨z, Or.inl q.symm⟩)
/-- something on the way has w for its group -/
theorem li_kid {par : Nat → Int32} {n : Nat} (hup : mo_up par n) (hn : n ≤ 48) : ∀ (m q w : Nat), q < n → li_an par m (nI q) w → q = w ∨ ∃ g, g ≤ q ∧ par g = nI w
  | 0, _, _, _, h => h.elim
  | m + 1, q, w, hq, h => by
    obtain ⟨-, h2⟩ := h
    rw [nI_clamp (by omega)] at h2
    rcases h2 with z | z
    · exact Or.inl z
    · rcases hup q hq with y | ⟨p, hp, y⟩
      · rw [y] at z
        match m, z with
        | m + 1, z => exact absurd rfl z.1
      · rw [y] at z
        rcases li_kid hup hn m p w (by omega) z with r | ⟨g, hg, r⟩
        · exact Or.inr ⟨q, Nat.le_refl _, by rw [y, r]⟩
        · exact Or.inr ⟨g, by omega, r⟩
theorem li_an_of_le {par : Nat → Int32} {n : Nat} (hup : mo_up par n) (hn : n ≤ 48) : ∀ (m q w : Nat), q < n → li_an par m (nI q) w → w ≤ q
  | 0, _, _, _, h => h.elim
  | m + 1, q, w, hq, h => by
    obtain ⟨-, h2⟩ := h
    rw [nI_clamp (by omega)] at h2
    rcases h2 with z | z
    · omega
    · rcases hup q hq with y | ⟨p, hp, y⟩
      · rw [y] at z
        match m, z with
        | m + 1, z => exact absurd rfl z.1
      · rw [y] at z
        have := li_an_of_le hup hn m p w (by omega) z
        omega
/-- the way from an old field does not see the new one -/
theorem li_an_ext {par : Nat → Int32} {n w : Nat} {x : Int32} (hup : mo_up par n) (hn : n ≤ 48) : ∀ (m : Nat) (f : Int32), (f = -1 ∨ ∃ p, p < n ∧ f = nI p) → (li_an (upd par n x) m f w ↔ li_an par m f w)
  | 0, _, _ => Iff.rfl
  | m + 1, f, h => by
    show (¬ f = -1 ∧ (f.toNatClampNeg = w ∨ li_an (upd par n x) m (upd par n x f.toNatClampNeg) w)) ↔ (¬ f = -1 ∧ (f.toNatClampNeg = w ∨ li_an par m (par f.toNatClampNeg) w))
    rcases h with z | ⟨p, hp, z⟩
    · exact ⟨fun y => absurd z y.1, fun y => absurd z y.1⟩
    · rw [z, nI_clamp (by omega), show upd par n x p = par p from if_neg (by omega), li_an_ext hup hn m (par p) ?_]
      rcases hup p hp with y | ⟨q, hq, y⟩
      · exact Or.inl y
      · exact Or.inr ⟨q, by omega, y⟩
theorem li_lv_ext {G : Nat → Int32} {n : Nat} {x : Int32} : ∀ f, f ≤ n → mo_lv (upd G n x) f = mo_lv G f
  | 0, _ => rfl
  | f + 1, h => by
    show mo_lv (upd G n x) f + (if upd G n x f = 0 then 1 else 0) = mo_lv G f + (if G f = 0 then 1 else 0)
    rw [li_lv_ext f (by omega), show upd G n x f = G f from if_neg (by omega)]
/-- what an end is -/
def li_E (par : Nat → Int32) (n f : Nat) (x : Int32) : Prop := ∃ e, x = nI e ∧ f < e ∧ e ≤ n ∧ (e = n ↔ li_an par 48 (nI (n - 1)) f) ∧ (e = f + 1 ↔ ¬ ∃ g, g < n ∧ par g = nI f) ∧ ∀ g, g < n → par g = nI f → g < e
/-- the two schemas: Striping's (rows A, numbers I), the reference's (B, J) -/
def li_S (A : Nat → Nat → Int32) (I : Nat → Int32) (B : Nat → Nat → Int32) (J : Nat → Int32) (n lw : Nat) : Prop := n ≤ 48 ∧ I 8 = nI n ∧ J 4 = nI n ∧ I 10 = J 5 ∧ I 9 = nI lw ∧ lw = mo_lv (B 3) n ∧ mo_up (A 0) n ∧ mo_de (A 0) (A 2) n ∧ (B 0 = A 0 ∧ B 1 = A 1 ∧ B 2 = A 2) ∧ (∀ f, f < n → A 5 f = if B 3 f = 0 then nI (mo_lv (B 3) f) else -1) ∧ ∀ f, f < n → li_E (A 0) n f (A 6 f)
theorem li_grp {A : Nat → Nat → Int32} {I : Nat → Int32} {B : Nat → Nat → Int32} {J : Nat → Int32} {n lw w : Nat} (h : li_S A I B J n lw) (hw : w < n) : A 5 w = -1 ↔ ¬ B 3 w = 0 := by
  obtain ⟨hn, -, -, -, -, -, -, -, -, h5, -⟩ := h
  have e := h5 w hw
  have hl := mo_lv_le (B 3) w
  by_cases z : B 3 w = 0
  · rw [if_pos z] at e
    rw [e]
    exact ⟨fun y => absurd y (nI_nm1 (by omega)), fun y => absurd z y⟩
  · rw [if_neg z] at e
    exact ⟨fun _ => z, fun _ => e⟩
/-- both ask the same of a field -/
theorem li_yes {A : Nat → Nat → Int32} {I : Nat → Int32} {B : Nat → Nat → Int32} {J : Nat → Int32} {n lw : Nat} {p kd : Int32} (h : li_S A I B J n lw) : sc_yes A I n p kd ↔ J 5 = 0 ∧ n < 48 ∧ ¬ kd < 0 ∧ ¬ 2 < kd ∧ (p = -1 ∨ ∃ w, w < n ∧ p = nI w ∧ ¬ B 3 w = 0 ∧ mo_ch (B 0) p n (nI n - 1) = p ∧ ¬ B 2 w = 16) := by
  have hg := fun w hw => li_grp (w := w) h hw
  obtain ⟨hn, -, -, hr, -, -, hup, hde, ⟨e0, e1, e2⟩, h5, hE⟩ := h
  unfold sc_yes sc_may
  rw [hr, e0, e2, Int32.not_lt (a := 2) (b := kd)]
  refine and_congr_right fun _ => and_congr_right fun _ => and_congr_right fun _ => and_congr_right fun _ => or_congr_right ?_
  refine exists_congr fun w => and_congr_right fun hw => and_congr_right fun hp => ?_
  subst hp
  rw [hg w hw]
  refine and_congr_right fun _ => ?_
  obtain ⟨e, he, -, hen, hc, -⟩ := hE w hw
  obtain ⟨k, hk, ek, -⟩ := hde w hw
  obtain ⟨n', rfl⟩ : ∃ n', n = n' + 1 := ⟨n - 1, by omega⟩
  rw [nI_pred, li_ch hup hn (by omega) (n' + 1) (nI n') (Or.inr ⟨n', by omega, rfl⟩) (Nat.le_refl _), he, nI_eq (by omega) (by omega), hc, ek]
  have a1 : li_an (A 0) 48 (nI (n' + 1 - 1)) w ↔ li_an (A 0) (n' + 1) (nI n') w := by
    rw [Nat.add_sub_cancel]
    exact li_an_eq (li_en_48 hup hn (by omega)) (li_en_up hup hn (n' + 1) _ (Or.inr ⟨n', by omega, rfl⟩) (Nat.le_refl _))
  rw [a1]
  refine and_congr_right fun _ => ?_
  rw [show (16 : Int32) = nI 16 from rfl, nI_ltI (by omega) (by decide), nI_eq (by omega) (by decide)]
  omega
/-- a field more in both -/
theorem li_S.add {A : Nat → Nat → Int32} {S : Nat → Int64} {I : Nat → Int32} {B : Nat → Nat → Int32} {J : Nat → Int32} {n lw : Nat} {p kd gb : Int32} (h : li_S A I B J n lw) (hy : sc_yes A I n p kd) :
    li_S (va_up (sc_A1 A n lw p kd gb) 6 (sc_st1 A S n lw p gb).1) (if gb = 0 then va_up (va_up I 8 (nI (n + 1))) 9 (nI (lw + 1)) else va_up I 8 (nI (n + 1))) (va_up (va_up (va_up (va_up B 0 (upd (B 0) n p)) 1 (upd (B 1) n kd)) 3 (upd (B 3) n gb)) 2 (upd (B 2) n (if p = -1 then 1 else B 2 p.toNatClampNeg + 1))) (va_up J 4 (nI (n + 1))) (n + 1) (if gb = 0 then lw + 1 else lw) := by
  have hy2 := hy.2.2.2.2
  obtain ⟨hn, hI8, hJ4, hr, hI9, hlw, hup, hde, ⟨e0, e1, e2⟩, h5, hE⟩ := h
  have hp : p = -1 ∨ ∃ w, w < n ∧ p = nI w := by
    rcases hy2 with z | ⟨w, hw, z, -⟩
    · exact Or.inl z
    · exact Or.inr ⟨w, hw, z⟩
  have hn48 := hy.2.1
  have A0 : (va_up (sc_A1 A n lw p kd gb) 6 (sc_st1 A S n lw p gb).1) 0 = upd (A 0) n p := rfl
  have A2 : (va_up (sc_A1 A n lw p kd gb) 6 (sc_st1 A S n lw p gb).1) 2 = upd (A 2) n (sc_of A 2 p + 1) := rfl
  have A6 : (va_up (sc_A1 A n lw p kd gb) 6 (sc_st1 A S n lw p gb).1) 6 = (sc_st1 A S n lw p gb).1 := rfl
  have hup1 : mo_up (upd (A 0) n p) (n + 1) := sc_up_ext hup hp
  have hde1 : mo_de (upd (A 0) n p) (upd (A 2) n (sc_of A 2 p + 1)) (n + 1) := by
    intro f hf
    by_cases z : f = n
    · rw [z, show upd (A 0) n p n = p from if_pos rfl, show upd (A 2) n (sc_of A 2 p + 1) n = sc_of A 2 p + 1 from if_pos rfl]
      unfold sc_of
      rcases hy2 with q | ⟨w, hw, q, -, -, qd⟩
      · rw [if_pos q]
        exact ⟨0, by decide, rfl, Or.inl ⟨q, rfl⟩⟩
      · obtain ⟨k, hk, ek, -⟩ := hde w hw
        rw [q, if_neg (nI_nm1 (by omega)), nI_clamp (by omega), ek, nI_1]
        rw [ek, show (16 : Int32) = nI 16 from rfl, nI_ltI (by omega) (by decide)] at qd
        refine ⟨k + 1, by omega, rfl, Or.inr ⟨w, by omega, rfl, by omega, ?_⟩⟩
        exact (if_neg (by omega)).trans ek
    · obtain ⟨k, hk, ek, q⟩ := hde f (by omega)
      rw [show upd (A 0) n p f = A 0 f from if_neg z, show upd (A 2) n (sc_of A 2 p + 1) f = A 2 f from if_neg z]
      refine ⟨k, hk, ek, ?_⟩
      rcases q with q | ⟨g, hg, q1, q2, q3⟩
      · exact Or.inl q
      · exact Or.inr ⟨g, hg, q1, q2, (if_neg (by omega)).trans q3⟩
  have hl5 : ∀ f, f ≤ n → mo_lv (upd (B 3) n gb) f = mo_lv (B 3) f := fun f hf => li_lv_ext f hf
  refine ⟨by omega, ?_, rfl, ?_, ?_, ?_, hup1, ?_, ⟨?_, ?_, ?_⟩, fun f hf => ?_, fun f hf => ?_⟩
  · split <;> rfl
  · split <;> exact hr
  · split
    · rfl
    · exact hI9
  · show _ = mo_lv (upd (B 3) n gb) n + (if upd (B 3) n gb n = 0 then 1 else 0)
    rw [hl5 n (Nat.le_refl _), show upd (B 3) n gb n = gb from if_pos rfl, ← hlw]
    split <;> rfl
  · rw [A0, A2]; exact hde1
  · show upd (B 0) n p = _
    rw [e0]; rfl
  · show upd (B 1) n kd = _
    rw [e1]; rfl
  · show upd (B 2) n _ = _
    rw [e2, A2]
    unfold sc_of
    by_cases z : p = -1
    · rw [if_pos z, if_pos z]; rfl
    · rw [if_neg z, if_neg z]
  · show upd (A 5) n (if gb = 0 then nI lw else -1) f = if upd (B 3) n gb f = 0 then nI (mo_lv (upd (B 3) n gb) f) else -1
    rw [hl5 f (by omega)]
    by_cases z : f = n
    · rw [z, show upd (A 5) n (if gb = 0 then nI lw else -1) n = _ from if_pos rfl, show upd (B 3) n gb n = gb from if_pos rfl, hlw]
    · rw [show upd (A 5) n (if gb = 0 then nI lw else -1) f = A 5 f from if_neg z, show upd (B 3) n gb f = B 3 f from if_neg z]
      exact h5 f (by omega)
  · rw [A0, A6]
    have hen16 : li_en (upd (A 0) n p) 16 (nI n) := by
      obtain ⟨k, hk, ek, -⟩ := hde1 n (by omega)
      have := li_en_le (li_en_de hde1 (by omega) (k + 1) n (by omega) ek (by omega)) (16 - (k + 1))
      rw [show k + 1 + (16 - (k + 1)) = 16 by omega] at this
      exact this
    have hen48 : li_en (upd (A 0) n p) 48 (nI n) := li_en_48 hup1 (by omega) (by omega)
    obtain ⟨s1, s2⟩ := li_st (par := upd (A 0) n p) (v := nI n + 1) (s := if gb = 0 then sc_bit lw else 0) 16 (nI n) (A 6, S)
    have kid : ∀ w, li_an (upd (A 0) n p) 16 (nI n) w → n = w ∨ ∃ g, g ≤ n ∧ upd (A 0) n p g = nI w := fun w z => li_kid hup1 (by omega) 16 n w (by omega) z
    have an48 : ∀ w, li_an (upd (A 0) n p) 48 (nI n) w ↔ li_an (upd (A 0) n p) 16 (nI n) w := fun w => li_an_eq hen48 hen16
    have par_an : ∀ w, p = nI w → w < n → li_an (upd (A 0) n p) 16 (nI n) w := fun w z hw => by
      refine ⟨nI_nm1 (by omega), Or.inr ?_⟩
      rw [nI_clamp (by omega), show upd (A 0) n p n = p from if_pos rfl, z]
      exact ⟨nI_nm1 (by omega), Or.inl (nI_clamp (by omega))⟩
    by_cases z : li_an (upd (A 0) n p) 16 (nI n) f
    · refine ⟨n + 1, (s1 f z).trans (nI_1 n), by omega, Nat.le_refl _, ⟨fun _ => (an48 f).mpr z, fun _ => rfl⟩, ⟨fun y => ?_, fun y => ?_⟩, fun g hg _ => hg⟩
      · rintro ⟨g, hg, q⟩
        obtain rfl : f = n := by omega
        rcases hup1 g hg with r | ⟨t, ht, r⟩
        · exact nI_nm1 (by omega) (q.symm.trans r)
        · have := (nI_eq (by omega) (by omega)).mp (q.symm.trans r)
          omega
      · rcases kid f z with q | ⟨g, hg, q⟩
        · rw [q]
        · exact absurd ⟨g, by omega, q⟩ y
    · have hfn : f < n := by
        rcases Nat.lt_or_ge f n with y | y
        · exact y
        · exfalso
          refine z ⟨nI_nm1 (by omega), Or.inl ?_⟩
          rw [nI_clamp (by omega)]
          omega
      have hpf : ¬ p = nI f := fun y => z (par_an f y hfn)
      obtain ⟨e, he, h1, h2, h3, h4, h6⟩ := hE f hfn
      refine ⟨e, (s2 f z).trans he, h1, by omega, ⟨fun y => by omega, fun y => absurd ((an48 f).mp y) z⟩, ?_, fun g hg q => ?_⟩
      · rw [h4]
        refine not_congr ⟨fun ⟨g, hg, q⟩ => ⟨g, by omega, (if_neg (by omega)).trans q⟩, fun ⟨g, hg, q⟩ => ?_⟩
        by_cases y : g = n
        · rw [y, show upd (A 0) n p n = p from if_pos rfl] at q
          exact absurd q hpf
        · exact ⟨g, by omega, by rw [show upd (A 0) n p g = A 0 g from if_neg y] at q; exact q⟩
      · by_cases y : g = n
        · rw [y, show upd (A 0) n p n = p from if_pos rfl] at q
          exact absurd q hpf
        · rw [show upd (A 0) n p g = A 0 g from if_neg y] at q
          exact h6 g (by omega) q
end
section
/-! LINKS, 2: the record that has begun. Striping's draft (G W k dp bg, cr co) and the reference's occurrences b .. b + k - 1 (rows B, numbers J); P j: the occurrence that stands at depth j (-1: the record). -/
theorem nI_m1 {w : Nat} (h : w < 2 ^ 31) : ¬ nI w ≤ -1 := fun z => nI_pos h (Int32.lt_of_le_of_lt z (by decide))
theorem nI_m1' {w : Nat} (h : w < 2 ^ 31) : -1 < nI w := Int32.not_le.mp (nI_m1 h)
theorem li_cn {ofs aro : Nat → Int32} {f ins : Int32} {b : Nat} : ∀ j, 0 < mo_cn ofs aro f ins b j ↔ ∃ t, b ≤ t ∧ t < b + j ∧ ofs t = f ∧ aro t = ins
  | 0 => ⟨fun h => absurd h (Nat.lt_irrefl 0), fun ⟨t, h1, h2, _⟩ => by omega⟩
  | j + 1 => by
    show 0 < mo_cn ofs aro f ins b j + (if ofs (b + j) = f ∧ aro (b + j) = ins then 1 else 0) ↔ _
    have ih := li_cn (ofs := ofs) (aro := aro) (f := f) (ins := ins) (b := b) j
    by_cases z : ofs (b + j) = f ∧ aro (b + j) = ins
    · rw [if_pos z]
      exact ⟨fun _ => ⟨b + j, by omega, by omega, z⟩, fun _ => by omega⟩
    · rw [if_neg z, Nat.add_zero, ih]
      refine ⟨fun ⟨t, h1, h2, h3⟩ => ⟨t, h1, by omega, h3⟩, fun ⟨t, h1, h2, h3⟩ => ⟨t, h1, ?_, h3⟩⟩
      rcases Nat.lt_or_ge t (b + j) with y | y
      · exact y
      · exact absurd (by rw [show b + j = t by omega]; exact h3) z
/-- what stands in pj has an occurrence of x -/
def li_hs (B : Nat → Nat → Int32) (b k : Nat) (pj x : Int32) : Prop := ∃ t, b ≤ t ∧ t < b + k ∧ B 4 t = x ∧ B 6 t = pj
/-- a depth: the group's field g, the newest field wj, the occurrence pj -/
def li_L (A : Nat → Nat → Int32) (n : Nat) (g wj pj : Int32) (B : Nat → Nat → Int32) (b k : Nat) : Prop := (wj = -1 ∨ ∃ w, w < n ∧ wj = nI w ∧ A 0 w = g ∧ li_hs B b k pj wj) ∧ (∀ t, b ≤ t → t < b + k → B 6 t = pj → ∃ w, w < n ∧ B 4 t = nI w ∧ nI w ≤ wj) ∧ ∀ h, h < n → A 0 h = g → A 1 h = 0 → nI h < wj → li_hs B b k pj (nI h)
def li_Pj (A : Nat → Nat → Int32) (n : Nat) (G : Nat → Int32) (B : Nat → Nat → Int32) (b k : Nat) (P : Nat → Int32) (j : Nat) : Prop := ∃ q w, P (j + 1) = nI q ∧ b ≤ q ∧ q < b + k ∧ B 6 q = P j ∧ B 4 q = nI w ∧ G (j + 1) = nI w ∧ w < n ∧ A 5 w = -1 ∧ A 2 w = nI (j + 1)
def li_O (A : Nat → Nat → Int32) (n : Nat) (G W : Nat → Int32) (k dp : Nat) (B : Nat → Nat → Int32) (J : Nat → Int32) (b : Nat) (P : Nat → Int32) : Prop := dp ≤ 16 ∧ P 0 = -1 ∧ G 0 = -1 ∧ J 13 = P dp ∧ (∀ i j, i < j → j ≤ dp → ¬ P i = P j) ∧ (∀ j, j < dp → li_Pj A n G B b k P j) ∧ ∀ j, j ≤ dp → li_L A n (G j) (W j) (P j) B b k
def li_D (A : Nat → Nat → Int32) (n : Nat) (G W : Nat → Int32) (k dp : Nat) (bg cr co : Int32) (B : Nat → Nat → Int32) (J : Nat → Int32) (b r : Nat) : Prop := (r ≤ 128 ∧ b + k ≤ 2048 ∧ (bg = 0 → k = 0 ∧ J 13 = -1) ∧ (¬ bg = 0 → r < 128)) ∧ (cr = nI r ∧ J 11 = nI r ∧ B 7 r = nI b ∧ co = nI b ∧ J 9 = nI (b + k) ∧ J 12 = bg ∧ (bg = 0 ∨ bg = 1)) ∧ (∀ t, b ≤ t → t < b + k → B 6 t = -1 ∨ ∃ q, b ≤ q ∧ q < t ∧ B 6 t = nI q) ∧ (¬ bg = 0 → ∃ P, li_O A n G W k dp B J b P)
section LI
variable {A : Nat → Nat → Int32} {I : Nat → Int32} {B : Nat → Nat → Int32} {J : Nat → Int32} {n lw : Nat} {G W : Nat → Int32} {k dp : Nat} {bg cr co : Int32} {b r : Nat} {P : Nat → Int32}
theorem li_q {x : Int32} {q g : Nat} (hn : n ≤ 48) (hx : x = -1 ∨ ∃ w, w < n ∧ x = nI w) (hq : (if x + 1 < 0 then 0 else x + 1) = nI q) (hq2 : q < 2 ^ 31) (hg : g < n) : q ≤ g ↔ x < nI g := by
  rcases hx with z | ⟨w, hw, z⟩
  · subst z
    have : q = 0 := (nI_eq hq2 (by decide)).mp (hq.symm.trans (by decide))
    subst this
    exact ⟨fun _ => nI_m1' (by omega), fun _ => Nat.zero_le _⟩
  · subst z
    rw [nI_1, if_neg (nI_pos (by omega))] at hq
    have : w + 1 = q := (nI_eq (by omega) hq2).mp hq
    rw [nI_ltI (by omega) (by omega)]
    omega
theorem li_q0 (x : Int32) : ∃ q, (if x + 1 < 0 then 0 else x + 1) = nI q ∧ q < 2 ^ 31 := by
  by_cases z : x + 1 < 0
  · exact ⟨0, by rw [if_pos z]; rfl, by decide⟩
  · obtain ⟨q, h1, h2⟩ := nI_of z
    exact ⟨q, by rw [if_neg z]; exact h2, h1⟩
theorem li_ps (h : li_O A n G W k dp B J b P) (hb : b + k ≤ 2048) : mo_ps B J = G dp := by
  obtain ⟨h1, h2, h3, h4, h5, h6, h7⟩ := h
  unfold mo_ps
  rw [h4]
  match dp, h6 with
  | 0, _ => rw [if_pos h2, h3]
  | j + 1, h6 =>
    obtain ⟨q, w, e1, e2, e3, e4, e5, e6, -⟩ := h6 j (by omega)
    rw [e1, if_neg (nI_nm1 (by omega)), nI_clamp (by omega), e5, e6]
theorem li_hs_iff (h4 : J 13 = P dp) (g : Nat) : 0 < mo_hs B J b (b + k) g ↔ li_hs B b k (P dp) (nI g) := by
  unfold mo_hs
  rw [h4, Nat.add_sub_cancel_left]
  exact li_cn k
theorem li_W (h : li_L A n (G dp) (W dp) (P dp) B b k) : W dp = -1 ∨ ∃ w, w < n ∧ W dp = nI w := by
  rcases h.1 with z | ⟨w, hw, z, -⟩
  · exact Or.inl z
  · exact Or.inr ⟨w, hw, z⟩
/-- has: at most the newest -/
theorem li_le (hn : n ≤ 48) (h : li_L A n (G dp) (W dp) (P dp) B b k) {g : Nat} (hg : g < n) (hh : li_hs B b k (P dp) (nI g)) : nI g ≤ W dp := by
  obtain ⟨t, t1, t2, t3, t4⟩ := hh
  obtain ⟨w, hw, w1, w2⟩ := h.2.1 t t1 t2 t4
  rw [← t3, w1]
  exact w2
/-- has: the required ones up to the newest, and the newest -/
theorem li_ge (h : li_L A n (G dp) (W dp) (P dp) B b k) {g : Nat} (hn : n ≤ 48) (hg : g < n) (h0 : A 0 g = G dp) (h1 : A 1 g = 0) (hh : ¬ W dp < nI g) : li_hs B b k (P dp) (nI g) := by
  by_cases z : nI g = W dp
  · rcases h.1 with y | ⟨w, hw, y, -, y2⟩
    · exact absurd (z.trans y) (nI_nm1 (by omega))
    · rw [z]; exact y2
  · exact h.2.2 g hg h0 h1 (Int32.lt_of_le_of_ne (Int32.not_lt.mp hh) z)
/-- both ask the same of an occurrence -/
theorem li_may (hS : li_S A I B J n lw) (hD : li_D A n G W k dp bg cr co B J b r) (hG3 : ∀ f, f < n → B 3 f = 0 ∨ B 3 f = 1) {q w : Nat} {gb : Int32} (hw : w < n) (hgb : B 3 w = gb) (hq : (if W dp + 1 < 0 then 0 else W dp + 1) = nI q) (hq2 : q < 2 ^ 31) : cl_may A n G W k dp bg co q w ↔ mo_may B J n b (b + k) (nI w) gb := by
  obtain ⟨⟨d1, d2, d3, d4⟩, ⟨d5, d6, d7, d8, d9, d10, d11⟩, -, d12⟩ := hD
  obtain ⟨hn, -, -, -, -, -, -, -, ⟨e0, e1, e2⟩, -, -⟩ := hS
  unfold cl_may mo_may
  rw [d10, e0, e1]
  refine and_congr_right fun hbg => ?_
  obtain ⟨P, hO⟩ := d12 hbg
  have hps := li_ps hO d2
  obtain ⟨o1, o2, o3, o4, o5, o6, o7⟩ := hO
  have hL := o7 dp (Nat.le_refl _)
  have hWv := li_W hL
  have hs : ∀ g, 0 < mo_hs B J b (b + k) g ↔ li_hs B b k (P dp) (nI g) := fun g => li_hs_iff o4 g
  have hs0 : ∀ g, mo_hs B J b (b + k) g = 0 ↔ ¬ li_hs B b k (P dp) (nI g) := fun g => by rw [← hs g]; omega
  rw [hps, d8, nI_add, show (2048 : Int32) = nI 2048 from rfl, nI_ltI (by omega) (by decide)]
  constructor
  · rintro ⟨c1, c2, c3, c4, c5⟩
    refine ⟨w, hw, rfl, hgb, c1, c2, ?_, fun g hg => ?_⟩
    · by_cases z : li_hs B b k (P dp) (nI w)
      · exact Or.inl (c4 (Int32.le_antisymm (li_le hn hL hw z) (Int32.not_lt.mp c3)))
      · exact Or.inr ((hs0 w).mpr z)
    · unfold mo_cg
      rw [e0, e1]
      intro hgw
      refine ⟨?_, ?_⟩
      · rcases Nat.lt_or_ge g w with y | y
        · by_cases y1 : A 1 g = 0
          · refine Or.inr (Or.inr ((hs g).mpr (li_ge hL hn hg (hgw.trans c1) y1 (fun y2 => c5 ⟨g, hg, (li_q hn hWv hq hq2 hg).mpr y2, nI_lt y (by omega), hgw.trans c1, y1⟩))))
          · exact Or.inr (Or.inl y1)
        · exact Or.inl y
      · rcases Nat.lt_or_ge w g with y | y
        · refine Or.inr ((hs0 g).mpr (fun y2 => c3 (Int32.lt_of_lt_of_le (nI_lt y (by omega)) (li_le hn hL hg y2))))
        · exact Or.inl y
  · rintro ⟨w', hw', ew, c1, c2, c3, c4, c5⟩
    obtain rfl : w' = w := ((nI_eq (by omega) (by omega)).mp ew).symm
    refine ⟨c2, c3, fun z => ?_, fun z => ?_, fun ⟨g, hg, g1, g2, g3, g4⟩ => ?_⟩
    · rcases hL.1 with y | ⟨u, hu, y, y1, y2⟩
      · rw [y] at z
        exact nI_m1 (by omega) (Int32.le_of_lt z)
      · have hc := c5 u hu
        unfold mo_cg at hc
        rw [e0] at hc
        rw [y, nI_ltI (by omega) (by omega)] at z
        rw [y] at y2
        rcases (hc (y1.trans c2.symm)).2 with x | x
        · omega
        · exact (hs0 u).mp x y2
    · rcases c4 with y | y
      · exact y
      · rcases hL.1 with x | ⟨u, hu, x, x1, x2⟩
        · exact absurd (z.trans x) (nI_nm1 (by omega))
        · rw [← z] at x2
          exact absurd x2 ((hs0 w').mp y)
    · have hc := c5 g hg
      unfold mo_cg at hc
      rw [e0, e1] at hc
      rw [nI_ltI (by omega) (by omega)] at g2
      rcases (hc (g3.trans c2.symm)).1 with x | x | x
      · omega
      · exact x g4
      · exact absurd (li_le hn hL hg ((hs g).mp x)) (Int32.not_le.mpr ((li_q hn hWv hq hq2 hg).mp g1))
/-- both ask the same of an end -/
theorem li_end (hS : li_S A I B J n lw) (hD : li_D A n G W k dp bg cr co B J b r) (hbg : ¬ bg = 0) {q : Nat} (hq : (if W dp + 1 < 0 then 0 else W dp + 1) = nI q) (hq2 : q < 2 ^ 31) : ¬ sc_req A n (G dp) q (cl_to A n (G dp)) ↔ mo_end B J n b (b + k) := by
  obtain ⟨⟨d1, d2, d3, d4⟩, ⟨d5, d6, d7, d8, d9, d10, d11⟩, -, d12⟩ := hD
  obtain ⟨hn, -, -, -, -, -, -, -, ⟨e0, e1, e2⟩, -, hE⟩ := hS
  obtain ⟨P, hO⟩ := d12 hbg
  have hps := li_ps hO d2
  obtain ⟨o1, o2, o3, o4, o5, o6, o7⟩ := hO
  have hL := o7 dp (Nat.le_refl _)
  have hWv := li_W hL
  have hs : ∀ g, 0 < mo_hs B J b (b + k) g ↔ li_hs B b k (P dp) (nI g) := fun g => li_hs_iff o4 g
  have hto : ∀ g, g < n → A 0 g = G dp → nI g < cl_to A n (G dp) := fun g hg hgg => by
    unfold cl_to
    by_cases z : G dp = -1
    · rw [if_pos z]; exact nI_lt hg (by omega)
    · rw [if_neg z]
      match dp, o6, z, hgg with
      | 0, _, z, _ => exact absurd o3 z
      | j + 1, o6, z, hgg =>
        obtain ⟨q, w, -, -, -, -, -, e6, hw, -⟩ := o6 j (by omega)
        obtain ⟨e, he, -, he2, -, -, he3⟩ := hE w hw
        rw [e6, nI_clamp (by omega), he]
        exact nI_lt (he3 g hg (hgg.trans e6)) (by omega)
  unfold mo_end
  rw [hps, e0, e1]
  constructor
  · intro c g hg g1 g2
    exact (hs g).mpr (li_ge hL hn hg g1 g2 (fun y => c ⟨g, hg, (li_q hn hWv hq hq2 hg).mpr y, hto g hg g1, g1, g2⟩))
  · rintro c ⟨g, hg, g1, g2, g3, g4⟩
    exact absurd (li_le hn hL hg ((hs g).mp (c g hg g3 g4))) (Int32.not_le.mpr ((li_q hn hWv hq hq2 hg).mp g1))
end LI
end
section
/-! LINKS, 3: the record that has begun, from call to call. -/
section LJ
variable {A : Nat → Nat → Int32} {I : Nat → Int32} {B : Nat → Nat → Int32} {J : Nat → Int32} {n lw : Nat} {G W : Nat → Int32} {k dp : Nat} {bg cr co : Int32} {b r : Nat} {P : Nat → Int32}
theorem li_D.begin (h : li_D A n G W k dp bg cr co B J b r) (hn : n ≤ 48) (hbg : bg = 0) (hr : r < 128) : li_D A n (upd G 0 (-1)) (upd W 0 (-1)) 0 0 1 cr co (va_up B 7 (upd (B 7) r (J 9))) (va_up (va_up J 12 1) 13 (-1)) b r := by
  obtain ⟨⟨d1, d2, d3, d4⟩, ⟨d5, d6, d7, d8, d9, d10, d11⟩, d13, d12⟩ := h
  obtain ⟨rfl, d14⟩ := d3 hbg
  refine ⟨⟨d1, d2, fun z => absurd z (by decide), fun _ => hr⟩, ⟨d5, d6, ?_, d8, d9, rfl, Or.inr rfl⟩, fun t h1 h2 => by omega, fun _ => ⟨fun _ => -1, ?_⟩⟩
  · exact (if_pos rfl).trans d9
  · refine ⟨by decide, rfl, rfl, rfl, fun i j h1 h2 => by omega, fun j hj => absurd hj (Nat.not_lt_zero _), fun j hj => ?_⟩
    obtain rfl : j = 0 := by omega
    refine ⟨Or.inl rfl, fun t h1 h2 => by omega, fun g hgn _ _ hg => ?_⟩
    exact absurd (Int32.le_of_lt hg) (nI_m1 (by omega))
theorem li_D.drop (h : li_D A n G W k dp bg cr co B J b r) : li_D A n G W 0 0 0 cr co B (va_up (va_up (va_up J 12 0) 9 (B 7 r)) 13 (-1)) b r := by
  obtain ⟨⟨d1, d2, d3, d4⟩, ⟨d5, d6, d7, d8, d9, d10, d11⟩, d13, d12⟩ := h
  exact ⟨⟨d1, by omega, fun _ => ⟨rfl, rfl⟩, fun z => absurd rfl z⟩, ⟨d5, d6, d7, d8, d7, rfl, Or.inl rfl⟩, fun t h1 h2 => by omega, fun z => absurd rfl z⟩
/-- the last group ends -/
theorem li_D.inner (h : li_D A n G W k (dp + 1) bg cr co B J b r) (hbg : ¬ bg = 0) {q : Nat} (hq2 : q < b + k) (hq : J 13 = nI q) : li_D A n G W k dp bg cr co B (va_up J 13 (B 6 q)) b r := by
  obtain ⟨⟨d1, d2, d3, d4⟩, ⟨d5, d6, d7, d8, d9, d10, d11⟩, d13, d12⟩ := h
  obtain ⟨P, o1, o2, o3, o4, o5, o6, o7⟩ := d12 hbg
  refine ⟨⟨d1, d2, fun z => absurd z hbg, d4⟩, ⟨d5, d6, d7, d8, d9, d10, d11⟩, d13, fun _ => ⟨P, by omega, o2, o3, ?_, fun i j h1 h2 => o5 i j h1 (by omega), fun j hj => o6 j (by omega), fun j hj => o7 j (by omega)⟩⟩
  obtain ⟨q', w, e1, e2, e3, e4, -⟩ := o6 dp (by omega)
  have : q = q' := (nI_eq (by omega) (by omega)).mp (hq.symm.trans (o4.trans e1))
  rw [this]
  exact e4
/-- the record ends -/
theorem li_D.outer (h : li_D A n G W k 0 bg cr co B J b r) (hbg : ¬ bg = 0) : li_D A n G W 0 0 0 (cr + 1) (co + nI k) (va_up B 7 (upd (B 7) (r + 1) (nI (b + k)))) (va_up (va_up J 12 0) 11 (nI (r + 1))) (b + k) (r + 1) := by
  obtain ⟨⟨d1, d2, d3, d4⟩, ⟨d5, d6, d7, d8, d9, d10, d11⟩, d13, d12⟩ := h
  obtain ⟨P, o1, o2, o3, o4, o5, o6, o7⟩ := d12 hbg
  have := d4 hbg
  refine ⟨⟨by omega, d2, fun _ => ⟨rfl, ?_⟩, fun z => absurd rfl z⟩, ⟨?_, rfl, if_pos rfl, ?_, d9, rfl, Or.inl rfl⟩, fun t h1 h2 => by omega, fun z => absurd rfl z⟩
  · exact o4.trans o2
  · rw [d5, nI_1]
  · rw [d8, nI_add]
/-- an occurrence of w comes into the group that stands at depth dp -/
theorem li_come (hn : n ≤ 48) (h : li_D A n G W k dp bg cr co B J b r) (hbg : ¬ bg = 0) (hk : b + k < 2048) {w : Nat} {v : Int32} (hw : w < n) (hps : A 0 w = G dp) (hge : ¬ nI w < W dp) (hreq : ∀ P : Nat → Int32, J 13 = P dp → ∀ g, g < n → A 0 g = G dp → A 1 g = 0 → g < w → li_hs B b k (P dp) (nI g)) :
    li_D A n G (upd W dp (nI w)) (k + 1) dp bg cr co (va_up (va_up (va_up B 4 (upd (B 4) (b + k) (nI w))) 5 (upd (B 5) (b + k) v)) 6 (upd (B 6) (b + k) (J 13))) (va_up J 9 (nI (b + k + 1))) b r := by
  obtain ⟨⟨d1, d2, d3, d4⟩, ⟨d5, d6, d7, d8, d9, d10, d11⟩, d13, d12⟩ := h
  obtain ⟨P, o1, o2, o3, o4, o5, o6, o7⟩ := d12 hbg
  have n4 : ∀ t, t < b + k → upd (B 4) (b + k) (nI w) t = B 4 t := fun t ht => if_neg (by omega)
  have n6 : ∀ t, t < b + k → upd (B 6) (b + k) (J 13) t = B 6 t := fun t ht => if_neg (by omega)
  have m4 : upd (B 4) (b + k) (nI w) (b + k) = nI w := if_pos rfl
  have m6 : upd (B 6) (b + k) (J 13) (b + k) = J 13 := if_pos rfl
  have hsup : ∀ p x, li_hs B b k p x → li_hs (va_up (va_up (va_up B 4 (upd (B 4) (b + k) (nI w))) 5 (upd (B 5) (b + k) v)) 6 (upd (B 6) (b + k) (J 13))) b (k + 1) p x := fun p x ⟨t, t1, t2, t3, t4⟩ => ⟨t, t1, by omega, (n4 t t2).trans t3, (n6 t t2).trans t4⟩
  refine ⟨⟨d1, by omega, fun z => absurd z hbg, d4⟩, ⟨d5, d6, d7, d8, rfl, d10, d11⟩, fun t h1 h2 => ?_, fun _ => ⟨P, o1, o2, o3, o4, o5, fun j hj => ?_, fun j hj => ?_⟩⟩
  · show upd (B 6) (b + k) (J 13) t = -1 ∨ ∃ q, b ≤ q ∧ q < t ∧ upd (B 6) (b + k) (J 13) t = nI q
    by_cases z : t = b + k
    · rw [z, m6, o4]
      match dp, o6 with
      | 0, _ => exact Or.inl o2
      | j + 1, o6 =>
        obtain ⟨q, w', e1, e2, e3, -⟩ := o6 j (by omega)
        exact Or.inr ⟨q, e2, e3, e1⟩
    · rw [n6 t (by omega)]
      exact d13 t h1 (by omega)
  · obtain ⟨q, w', e1, e2, e3, e4, e5, e6⟩ := o6 j hj
    exact ⟨q, w', e1, e2, by omega, (n6 q e3).trans e4, (n4 q e3).trans e5, e6⟩
  · by_cases z : j = dp
    · subst z
      obtain ⟨l1, l2, l3⟩ := o7 j (Nat.le_refl _)
      rw [show upd W j (nI w) j = nI w from if_pos rfl]
      refine ⟨Or.inr ⟨w, hw, rfl, hps, b + k, by omega, by omega, m4, m6.trans o4⟩, fun t h1 h2 h3 => ?_, fun g hg g1 g2 g3 => ?_⟩
      · by_cases y : t = b + k
        · exact ⟨w, hw, by rw [y]; exact m4, Int32.le_refl _⟩
        · obtain ⟨u, hu, u1, u2⟩ := l2 t h1 (by omega) ((n6 t (by omega)).symm.trans h3)
          exact ⟨u, hu, (n4 t (by omega)).trans u1, Int32.le_trans u2 (Int32.not_lt.mp hge)⟩
      · rw [nI_ltI (by omega) (by omega)] at g3
        exact hsup _ _ (hreq P o4 g hg g1 g2 g3)
    · obtain ⟨l1, l2, l3⟩ := o7 j hj
      rw [show upd W dp (nI w) j = W j from if_neg z]
      refine ⟨?_, fun t h1 h2 h3 => ?_, fun g hg g1 g2 g3 => hsup _ _ (l3 g hg g1 g2 g3)⟩
      · rcases l1 with y | ⟨u, hu, y1, y2, y3⟩
        · exact Or.inl y
        · exact Or.inr ⟨u, hu, y1, y2, hsup _ _ y3⟩
      · by_cases y : t = b + k
        · rw [y] at h3
          have h3' : J 13 = P j := m6.symm.trans h3
          exact absurd (h3'.symm.trans o4) (o5 j dp (by omega) (Nat.le_refl _))
        · obtain ⟨u, hu, u1, u2⟩ := l2 t h1 (by omega) ((n6 t (by omega)).symm.trans h3)
          exact ⟨u, hu, (n4 t (by omega)).trans u1, u2⟩
/-- the occurrence that came last is a group, and stands at depth dp + 1 -/
theorem li_D.enter (hn : n ≤ 48) (h : li_D A n G W (k + 1) dp bg cr co B J b r) (hbg : ¬ bg = 0) {w : Nat} (hw : w < n) (h4 : B 4 (b + k) = nI w) (h6 : B 6 (b + k) = J 13) (hg : A 5 w = -1) (h2 : A 2 w = nI (dp + 1)) (hdp : dp < 16) : li_D A n (upd G (dp + 1) (nI w)) (upd W (dp + 1) (-1)) (k + 1) (dp + 1) bg cr co B (va_up J 13 (nI (b + k))) b r := by
  obtain ⟨⟨d1, d2, d3, d4⟩, ⟨d5, d6, d7, d8, d9, d10, d11⟩, d13, d12⟩ := h
  obtain ⟨P, o1, o2, o3, o4, o5, o6, o7⟩ := d12 hbg
  have pn : ∀ j, j ≤ dp → upd P (dp + 1) (nI (b + k)) j = P j := fun j hj => if_neg (by omega)
  have pm : upd P (dp + 1) (nI (b + k)) (dp + 1) = nI (b + k) := if_pos rfl
  have pne : ∀ j, j ≤ dp → ¬ P j = nI (b + k) := fun j hj y => by
    match j, hj with
    | 0, _ => exact nI_nm1 (by omega) (y.symm.trans o2)
    | j + 1, hj =>
      obtain ⟨q, w', e1, e2, e3, e4, -⟩ := o6 j (by omega)
      have := (nI_eq (by omega) (by omega)).mp (e1.symm.trans y)
      subst this
      have : P dp = P j := by rw [← o4, ← h6, e4]
      exact o5 j dp (by omega) (Nat.le_refl _) this.symm
  refine ⟨⟨d1, d2, fun z => absurd z hbg, d4⟩, ⟨d5, d6, d7, d8, d9, d10, d11⟩, d13, fun _ => ⟨upd P (dp + 1) (nI (b + k)), by omega, (pn 0 (by omega)).trans o2, (if_neg (by omega)).trans o3, pm.symm, fun i j h1 h2 => ?_, fun j hj => ?_, fun j hj => ?_⟩⟩
  · rw [pn i (by omega)]
    by_cases z : j = dp + 1
    · rw [z, pm]
      exact pne i (by omega)
    · rw [pn j (by omega)]
      exact o5 i j h1 (by omega)
  · by_cases z : j = dp
    · rw [z]
      refine ⟨b + k, w, pm, by omega, by omega, ?_, h4, if_pos rfl, hw, hg, h2⟩
      rw [pn dp (Nat.le_refl _), h6, o4]
    · obtain ⟨q, w', e1, e2, e3, e4, e5, e6, e7⟩ := o6 j (by omega)
      refine ⟨q, w', ?_, e2, e3, ?_, e5, ?_, e7⟩
      · rw [pn (j + 1) (by omega)]; exact e1
      · rw [pn j (by omega)]; exact e4
      · exact (if_neg (by omega)).trans e6
  · by_cases z : j = dp + 1
    · rw [z, pm, show upd W (dp + 1) (-1) (dp + 1) = -1 from if_pos rfl]
      refine ⟨Or.inl rfl, fun t h1 h2 h3 => ?_, fun g hgn _ _ hg => absurd (Int32.le_of_lt hg) (nI_m1 (by omega))⟩
      rcases d13 t h1 h2 with y | ⟨q, q1, q2, y⟩
      · exact absurd (h3.symm.trans y) (nI_nm1 (by omega))
      · have := (nI_eq (by omega) (by omega)).mp (y.symm.trans h3)
        omega
    · rw [pn j (by omega), show upd W (dp + 1) (-1) j = W j from if_neg (by omega), show upd G (dp + 1) (nI w) j = G j from if_neg (by omega)]
      exact o7 j (by omega)
/-- how deep an opened field lies -/
theorem li_deep (hS : li_S A I B J n lw) (h : li_D A n G W k dp bg cr co B J b r) (hbg : ¬ bg = 0) {w : Nat} (hw : w < n) (hps : A 0 w = G dp) : dp < 16 ∧ A 2 w = nI (dp + 1) := by
  obtain ⟨hn, -, -, -, -, -, hup, hde, -⟩ := hS
  obtain ⟨-, -, -, d12⟩ := h
  obtain ⟨P, o1, o2, o3, o4, o5, o6, o7⟩ := d12 hbg
  obtain ⟨q, hq, e, z⟩ := hde w hw
  match dp, o6, hps, o1 with
  | 0, _, hps, _ =>
    rw [o3] at hps
    rcases z with ⟨-, z⟩ | ⟨p, hp, z, -⟩
    · rw [z] at e
      exact ⟨by decide, e⟩
    · exact absurd (z.symm.trans hps) (nI_nm1 (by omega))
  | j + 1, o6, hps, o1 =>
    obtain ⟨t, u, -, -, -, -, -, e6, hu, -, e8⟩ := o6 j (by omega)
    rw [e6] at hps
    rcases z with ⟨z, -⟩ | ⟨p, hp, z, z2, z3⟩
    · exact absurd (hps.symm.trans z) (nI_nm1 (by omega))
    · have : p = u := (nI_eq (by omega) (by omega)).mp (z.symm.trans hps)
      subst this
      have := (nI_eq (by omega) (by omega)).mp (z3.symm.trans e8)
      subst this
      exact ⟨by omega, e⟩
end LJ
end
section
/-! THE REFERENCE'S OCCURRENCES AS A TREE: how many entries there can be; its events can be told. -/
theorem co_su_mono {f g : Nat → Nat} : ∀ n, (∀ c, c < n → f c ≤ g c) → co_su n f ≤ co_su n g
  | 0, _ => Nat.le_refl _
  | n + 1, h => Nat.add_le_add (co_su_mono n (fun c hc => h c (by omega))) (h n (by omega))
theorem co_su_add {f g : Nat → Nat} : ∀ n, co_su n (fun c => f c + g c) = co_su n f + co_su n g
  | 0 => rfl
  | n + 1 => by
    show co_su n (fun c => f c + g c) + (f n + g n) = co_su n f + f n + (co_su n g + g n)
    rw [co_su_add n]
    omega
/-- what lies in ins, weighed by g -/
def tr_in (aro : Nat → Int32) (g : Nat → Nat) (ins : Int32) : Nat → Nat := fun q => if aro q = ins then g q else 0
/-- what lies in one of the first P, weighed by g -/
def tr_c (aro : Nat → Int32) (g : Nat → Nat) : Nat → Nat → Nat
  | 0, _ => 0
  | P + 1, q => if aro q = nI P then g q else tr_c aro g P q
theorem tr_c_le (aro : Nat → Int32) (g : Nat → Nat) (q : Nat) : ∀ P, tr_c aro g P q ≤ g q
  | 0 => Nat.zero_le _
  | P + 1 => by
    show (if aro q = nI P then g q else tr_c aro g P q) ≤ g q
    split
    · exact Nat.le_refl _
    · exact tr_c_le aro g q P
theorem tr_c_0 (aro : Nat → Int32) (g : Nat → Nat) (q R : Nat) (hR : R < 2 ^ 31) (h : aro q = nI R) : ∀ P, P ≤ R → tr_c aro g P q = 0
  | 0, _ => rfl
  | P + 1, hP => by
    show (if aro q = nI P then g q else tr_c aro g P q) = 0
    rw [if_neg (fun z => ?_)]
    · exact tr_c_0 aro g q R hR h P (by omega)
    · have := (nI_eq hR (by omega)).mp (h.symm.trans z)
      omega
theorem tr_sum (aro : Nat → Int32) (g : Nat → Nat) (e : Nat) : ∀ P, P ≤ 2048 → co_su P (fun p => co_su e (tr_in aro g (nI p))) ≤ co_su e (tr_c aro g P)
  | 0, _ => Nat.zero_le _
  | P + 1, hP => by
    show co_su P (fun p => co_su e (tr_in aro g (nI p))) + co_su e (tr_in aro g (nI P)) ≤ _
    have ih := tr_sum aro g e P (by omega)
    have h2 : co_su e (fun q => tr_c aro g P q + tr_in aro g (nI P) q) ≤ co_su e (tr_c aro g (P + 1)) := co_su_mono e (fun q _ => by
      show tr_c aro g P q + (if aro q = nI P then g q else 0) ≤ (if aro q = nI P then g q else tr_c aro g P q)
      by_cases z : aro q = nI P
      · rw [if_pos z, if_pos z, tr_c_0 aro g q P (by omega) z P (Nat.le_refl _)]
        omega
      · rw [if_neg z, if_neg z]
        omega)
    rw [co_su_add] at h2
    omega
/-- a bound of the entries that an occurrence has, t steps above the leaf -/
def tr_g (aro : Nat → Int32) (e : Nat) : Nat → Nat → Nat
  | 0, _ => 1
  | t + 1, p => 1 + co_su e (tr_in aro (tr_g aro e t) (nI p))
theorem tr_1 : ∀ e, co_su e (fun _ => 1) = e
  | 0 => rfl
  | e + 1 => by
    show co_su e (fun _ => 1) + 1 = e + 1
    rw [tr_1 e]
theorem tr_tot (aro : Nat → Int32) (e : Nat) (he : e ≤ 2048) : ∀ t, co_su e (tr_g aro e t) ≤ (t + 1) * e
  | 0 => by
    show co_su e (fun _ => 1) ≤ _
    rw [tr_1]
    omega
  | t + 1 => by
    have h1 : co_su e (tr_g aro e (t + 1)) = co_su e (fun p => (fun _ => 1) p + (fun p => co_su e (tr_in aro (tr_g aro e t) (nI p))) p) := rfl
    rw [h1, co_su_add, tr_1]
    have h2 := tr_sum aro (tr_g aro e t) e e he
    have h3 : co_su e (tr_c aro (tr_g aro e t) e) ≤ co_su e (tr_g aro e t) := co_su_mono e (fun q _ => tr_c_le aro _ q e)
    have h4 := tr_tot aro e he t
    have h5 : (t + 1 + 1) * e = (t + 1) * e + e := Nat.succ_mul _ _
    omega
/-- the part of a sum from p on -/
def tr_fr (f : Nat → Nat) (p : Nat) : Nat → Nat := fun q => if p ≤ q then f q else 0
theorem tr_fr_le (f : Nat → Nat) (p e : Nat) : co_su e (tr_fr f p) ≤ co_su e f := co_su_mono e (fun q _ => by unfold tr_fr; split <;> omega)
theorem tr_fr_s (f : Nat → Nat) {p q : Nat} (hq : p < q) : ∀ e, p < e → f p + co_su e (tr_fr f q) ≤ co_su e (tr_fr f p)
  | 0, h => absurd h (Nat.not_lt_zero _)
  | e + 1, h => by
    show f p + (co_su e (tr_fr f q) + tr_fr f q e) ≤ co_su e (tr_fr f p) + tr_fr f p e
    by_cases z : p = e
    · subst z
      have h1 : co_su p (tr_fr f q) ≤ co_su p (tr_fr f p) := co_su_mono p (fun c hc => by unfold tr_fr; rw [if_neg (by omega), if_neg (by omega)]; exact Nat.le_refl _)
      have h2 : tr_fr f q p = 0 := if_neg (by omega)
      have h3 : tr_fr f p p = f p := if_pos (Nat.le_refl _)
      omega
    · have ih := tr_fr_s f hq e (by omega)
      have h3 : tr_fr f p e = f e := if_pos (by omega)
      have h4 : tr_fr f q e ≤ f e := by unfold tr_fr; split <;> omega
      omega
theorem tr_sib {ofs aro : Nat → Int32} {w ins : Int32} {e : Nat} {en : Nat → Int32 → List fi_E} {R : Int32} {g : Nat → Nat} (he : e ≤ 2048) (hg : ∀ p rep, p < e → (en p rep).length ≤ g p) : ∀ (u p : Nat) (rep : Int32), p < e → aro p = ins → (fi_sib (fi_nx ofs aro w ins e) en R u p rep).length ≤ co_su e (tr_fr (tr_in aro g ins) p)
  | 0, _, _, _, _ => Nat.zero_le _
  | u + 1, p, rep, hp, ha => by
    show (en p rep ++ (if fi_nx ofs aro w ins e (p + 1) = -1 then [] else fi_sib (fi_nx ofs aro w ins e) en R u (fi_nx ofs aro w ins e (p + 1)).toNatClampNeg R)).length ≤ _
    rw [List.length_append]
    have h1 := hg p rep hp
    have h0 : tr_in aro g ins p = g p := if_pos ha
    rcases mo_nx_or ofs aro w ins (e - (p + 1)) (p + 1) with z | ⟨q, q1, q2, q3, q4, q5⟩
    · have z' : fi_nx ofs aro w ins e (p + 1) = -1 := z
      rw [if_pos z']
      have h2 := tr_fr_s (tr_in aro g ins) (show p < e by omega) e hp
      have h3 : ([] : List fi_E).length = 0 := rfl
      omega
    · have z' : fi_nx ofs aro w ins e (p + 1) = nI q := q3
      rw [z', if_neg (nI_nm1 (by omega)), nI_clamp (by omega)]
      have ih := tr_sib (ofs := ofs) (w := w) (R := R) he hg u q R (by omega) q5
      have h2 := tr_fr_s (tr_in aro g ins) (show p < q by omega) e hp
      omega
theorem tr_ent {ofs aro val way D R : Nat → Int32} {e : Nat} (he : e ≤ 2048) : ∀ (t j p : Nat) (rep : Int32), p < e → (fi_ent ofs aro val way D R e t j p rep).length ≤ tr_g aro e t p
  | 0, _, _, _, _ => Nat.le_refl _
  | t + 1, j, p, rep, hp => by
    show (if fi_nx ofs aro (way (j + 1)) (nI p) e (p + 1) = -1 then [(rep, D j, 0)] else fi_sib (fi_nx ofs aro (way (j + 1)) (nI p) e) (fi_ent ofs aro val way D R e t (j + 1)) (R (j + 1)) e (fi_nx ofs aro (way (j + 1)) (nI p) e (p + 1)).toNatClampNeg rep).length ≤ 1 + co_su e (tr_in aro (tr_g aro e t) (nI p))
    rcases mo_nx_or ofs aro (way (j + 1)) (nI p) (e - (p + 1)) (p + 1) with z | ⟨q, q1, q2, q3, q4, q5⟩
    · have z' : fi_nx ofs aro (way (j + 1)) (nI p) e (p + 1) = -1 := z
      rw [if_pos z']
      show 1 ≤ _
      omega
    · have z' : fi_nx ofs aro (way (j + 1)) (nI p) e (p + 1) = nI q := q3
      rw [z', if_neg (nI_nm1 (by omega)), nI_clamp (by omega)]
      have h1 := tr_sib (ofs := ofs) (w := way (j + 1)) (R := R (j + 1)) (en := fi_ent ofs aro val way D R e t (j + 1)) he (fun p rep hp => tr_ent he t (j + 1) p rep hp) e q rep (by omega) q5
      have h2 := tr_fr_le (tr_in aro (tr_g aro e t) (nI p)) q e
      omega
theorem tr_rec {ofs aro val way D R : Nat → Int32} {s b e : Nat} (he : e ≤ 2048) (hs : s ≤ 16) : (fi_rec ofs aro val way D R s b e).length ≤ 40000 := by
  unfold fi_rec
  rcases mo_nx_or ofs aro (way 0) (-1) (e - b) b with z | ⟨q, q1, q2, q3, q4, q5⟩
  · have z' : fi_nx ofs aro (way 0) (-1) e b = -1 := z
    rw [if_pos z']
    show 1 ≤ 40000
    decide
  · have z' : fi_nx ofs aro (way 0) (-1) e b = nI q := q3
    rw [z', if_neg (nI_nm1 (by omega)), nI_clamp (by omega)]
    have h1 := tr_sib (ofs := ofs) (w := way 0) (R := R 0) (en := fi_ent ofs aro val way D R e (s - 1) 0) he (fun p rep hp => tr_ent he (s - 1) 0 p rep hp) e q 0 (by omega) q5
    have h2 := tr_fr_le (tr_in aro (tr_g aro e (s - 1)) (-1)) q e
    have h3 : co_su e (tr_in aro (tr_g aro e (s - 1)) (-1)) ≤ co_su e (tr_g aro e (s - 1)) := co_su_mono e (fun c _ => by unfold tr_in; split <;> omega)
    have h4 := tr_tot aro e he (s - 1)
    have h5 : (s - 1 + 1) * e ≤ 17 * e := Nat.mul_le_mul_right e (by omega)
    omega
theorem tr_from {A : Nat → Nat → Int32} {n s : Nat} {B : Nat → Nat} (hs : s ≤ 16) : ∀ (m r : Nat), (∀ i, i ≤ r + m → B i ≤ 2048) → (fi_from A n s B m r).length ≤ m * 40000
  | 0, _, _ => Nat.zero_le _
  | m + 1, r, hB => by
    show (fi_rec (A 4) (A 6) (A 5) (A 8) (fi_D A n) (fi_R A n) s (B r) (B (r + 1)) ++ fi_from A n s B m (r + 1)).length ≤ _
    rw [List.length_append, Nat.succ_mul]
    have h1 := tr_rec (ofs := A 4) (aro := A 6) (val := A 5) (way := A 8) (D := fi_D A n) (R := fi_R A n) (b := B r) (hB (r + 1) (by omega)) hs
    have h2 := tr_from (A := A) (n := n) hs m (r + 1) (fun i hi => hB i (by omega))
    omega
theorem tr_ents {A : Nat → Nat → Int32} {n N : Nat} {B : Nat → Nat} (hN : N ≤ 128) (hB : ∀ i, i ≤ N → B i ≤ 2048) (f k : Nat) (hk : k ≤ 16) : (mo_ents A n N B f k).length < 2 ^ 31 := by
  unfold mo_ents
  have h1 := tr_from (A := va_up A 8 (mo_wy (A 0) k (nI f) (A 8))) (n := n) (B := B) hk N 0 (fun i hi => hB i (by omega))
  have h2 : N * 40000 ≤ 128 * 40000 := Nat.mul_le_mul_right _ hN
  omega
end
section
/-! THE REFERENCE'S OCCURRENCES AS A TREE, 2: b .. e - 1 is a record. tr_v: i is none, or an occurrence of it below c. -/
def tr_v (b e c : Nat) (i : Int32) : Prop := i = -1 ∨ ∃ q, b ≤ q ∧ q < c ∧ q < e ∧ i = nI q
def tr_d (aro : Nat → Int32) (b e : Nat) : Prop := ∀ t, b ≤ t → t < e → aro t = -1 ∨ ∃ p, b ≤ p ∧ p < t ∧ aro t = nI p
section TR
variable {aro ofs G w val : Nat → Int32} {b e : Nat} {tg i j : Int32}
theorem rc_s : ∀ (m : Nat) (i : Int32), as_rc aro 2048 tg m i → as_rc aro 2048 tg (m + 1) i
  | 0, _, h => Or.inl h
  | m + 1, _, h => h.elim Or.inl (fun ⟨q, h1, h2, h3⟩ => Or.inr ⟨q, h1, h2, rc_s m _ h3⟩)
theorem rc_le {m : Nat} (h : as_rc aro 2048 tg m i) : ∀ k, as_rc aro 2048 tg (m + k) i
  | 0 => h
  | k + 1 => rc_s (m + k) i (rc_le h k)
theorem rc_up {m k : Nat} (h : as_rc aro 2048 tg m i) (hk : m ≤ k) : as_rc aro 2048 tg k i := by
  have := rc_le h (k - m)
  rw [show m + (k - m) = k by omega] at this
  exact this
theorem rc_rf : ∀ m, as_rc aro 2048 tg m tg
  | 0 => rfl
  | _ + 1 => Or.inl rfl
theorem rc_tr {m2 : Nat} (h2 : as_rc aro 2048 tg m2 j) : ∀ (m1 : Nat) (i : Int32), as_rc aro 2048 j m1 i → as_rc aro 2048 tg (m1 + m2) i
  | 0, i, h => by rw [Nat.zero_add, show i = j from h]; exact h2
  | m1 + 1, i, h => by
    rcases h with z | ⟨q, h1, h3, h4⟩
    · rw [z]; exact rc_up h2 (by omega)
    · rw [show m1 + 1 + m2 = m1 + m2 + 1 by omega]
      exact Or.inr ⟨q, h1, h3, rc_tr h2 m1 _ h4⟩
theorem tr_v.up {c c' : Nat} (h : tr_v b e c i) (hc : c ≤ c') : tr_v b e c' i := h.imp id (fun ⟨q, h1, h2, h3, h4⟩ => ⟨q, h1, by omega, h3, h4⟩)
theorem tr_d.v (hd : tr_d aro b e) {q : Nat} (h1 : b ≤ q) (h2 : q < e) : tr_v b e q (aro q) := (hd q h1 h2).imp id (fun ⟨p, p1, p2, p3⟩ => ⟨p, p1, p2, by omega, p3⟩)
/-- a way down can be gone in as many steps as there are occurrences -/
theorem rc_cut (hd : tr_d aro b e) (he : e ≤ 2048) : ∀ (c m : Nat) (i : Int32), tr_v b e c i → as_rc aro 2048 tg m i → as_rc aro 2048 tg c i
  | 0, m, i, hv, h => by
    have e1 : i = -1 := hv.resolve_right (fun ⟨_, _, z, _⟩ => absurd z (Nat.not_lt_zero _))
    match m, h with
    | 0, h => exact h
    | m + 1, h =>
      rcases h with z | ⟨q, h1, h2, -⟩
      · exact z
      · exact absurd (h2.symm.trans e1) (nI_nm1 (by omega))
  | c + 1, m, i, hv, h => by
    match m, h with
    | 0, h => exact Or.inl h
    | m + 1, h =>
      rcases h with z | ⟨q, h1, h2, h3⟩
      · exact Or.inl z
      · rcases hv with y | ⟨p, p1, p2, p3, p4⟩
        · exact absurd (h2.symm.trans y) (nI_nm1 (by omega))
        · have : p = q := (nI_eq (by omega) (by omega)).mp (p4.symm.trans h2)
          subst this
          exact Or.inr ⟨p, h1, h2, rc_cut hd he c m _ ((hd.v p1 p3).up (by omega)) h3⟩
theorem rc_cut48 (hd : tr_d aro b e) (he : e ≤ 2048) {m : Nat} (hv : tr_v b e e i) (h : as_rc aro 2048 tg m i) : as_rc aro 2048 tg 2048 i := rc_up (rc_cut hd he e m i hv h) he
/-- every way ends -/
theorem rc_end (hd : tr_d aro b e) (he : e ≤ 2048) : ∀ (c : Nat) (i : Int32), tr_v b e c i → as_rc aro 2048 (-1) c i
  | 0, _, hv => hv.resolve_right (fun ⟨_, _, z, _⟩ => absurd z (Nat.not_lt_zero _))
  | c + 1, _, hv => by
    rcases hv with y | ⟨p, p1, p2, p3, p4⟩
    · exact Or.inl y
    · exact Or.inr ⟨p, by omega, p4, rc_end hd he c _ ((hd.v p1 p3).up (by omega))⟩
/-- what is reached lies below -/
theorem rc_v (hd : tr_d aro b e) (he : e ≤ 2048) : ∀ (m c : Nat) (i : Int32), tr_v b e c i → as_rc aro 2048 tg m i → tr_v b e c tg
  | 0, c, i, hv, h => by rw [← show i = tg from h]; exact hv
  | m + 1, c, i, hv, h => by
    rcases h with z | ⟨q, h1, h2, h3⟩
    · rw [← z]; exact hv
    · rcases hv with y | ⟨p, p1, p2, p3, p4⟩
      · exact absurd (h2.symm.trans y) (nI_nm1 (by omega))
      · have : p = q := (nI_eq (by omega) (by omega)).mp (p4.symm.trans h2)
        subst this
        exact rc_v hd he m c _ ((hd.v p1 p3).up (by omega)) h3
/-- the same ways in other rows that agree on the record -/
theorem rc_cg {aro' : Nat → Int32} (hd : tr_d aro b e) (he : e ≤ 2048) (hq : ∀ q, b ≤ q → q < e → aro' q = aro q) : ∀ (m : Nat) (i : Int32), tr_v b e e i → as_rc aro 2048 tg m i → as_rc aro' 2048 tg m i
  | 0, _, _, h => h
  | m + 1, i, hv, h => by
    rcases h with z | ⟨q, h1, h2, h3⟩
    · exact Or.inl z
    · rcases hv with y | ⟨p, p1, p2, p3, p4⟩
      · exact absurd (h2.symm.trans y) (nI_nm1 (by omega))
      · have : p = q := (nI_eq (by omega) (by omega)).mp (p4.symm.trans h2)
        subst this
        refine Or.inr ⟨p, h1, h2, ?_⟩
        rw [hq p p1 p3]
        exact rc_cg hd he hq m _ ((hd.v p1 p3).up (by omega)) h3
theorem pp_s (hd : tr_d aro b e) (he : e ≤ 2048) : ∀ (c : Nat) (i : Int32), tr_v b e c i → as_pp ofs aro (-1) (c + 1) i = as_pp ofs aro (-1) c i
  | 0, i, hv => by
    have e1 : i = -1 := hv.resolve_right (fun ⟨_, _, z, _⟩ => absurd z (Nat.not_lt_zero _))
    exact if_pos e1
  | c + 1, i, hv => by
    show (if i = -1 then [] else _ :: as_pp ofs aro (-1) (c + 1) (aro i.toNatClampNeg)) = (if i = -1 then [] else _ :: as_pp ofs aro (-1) c (aro i.toNatClampNeg))
    rcases hv with y | ⟨p, p1, p2, p3, p4⟩
    · rw [if_pos y, if_pos y]
    · rw [p4, if_neg (nI_nm1 (by omega)), if_neg (nI_nm1 (by omega)), nI_clamp (by omega), pp_s hd he c (aro p) ((hd.v p1 p3).up (by omega))]
theorem pp_len (hd : tr_d aro b e) (he : e ≤ 2048) : ∀ (c : Nat) (i : Int32), tr_v b e c i → as_rc aro 2048 tg c i → (as_pp ofs aro tg c i).length + (as_pp ofs aro (-1) c tg).length ≤ (as_pp ofs aro (-1) c i).length
  | 0, i, hv, h => Nat.le_refl 0
  | c + 1, i, hv, h => by
    by_cases z : i = tg
    · have e1 : as_pp ofs aro tg (c + 1) i = [] := if_pos z
      rw [e1, z]
      show 0 + _ ≤ _
      omega
    · obtain ⟨q, h1, h2, h3⟩ := Or.resolve_left h z
      rcases hv with y | ⟨p, p1, p2, p3, p4⟩
      · exact absurd (h2.symm.trans y) (nI_nm1 (by omega))
      · have : p = q := (nI_eq (by omega) (by omega)).mp (p4.symm.trans h2)
        subst this
        have hv2 := (hd.v p1 p3).up (show p ≤ c by omega)
        have e1 : as_pp ofs aro tg (c + 1) i = (2 * ofs i.toNatClampNeg + 1, 0) :: as_pp ofs aro tg c (aro i.toNatClampNeg) := if_neg z
        have e2 : as_pp ofs aro (-1) (c + 1) i = (2 * ofs i.toNatClampNeg + 1, 0) :: as_pp ofs aro (-1) c (aro i.toNatClampNeg) := if_neg (by rw [h2]; exact nI_nm1 (by omega))
        rw [e1, e2, h2, nI_clamp (by omega), pp_s hd he c tg (rc_v hd he c c _ hv2 h3), List.length_cons, List.length_cons]
        have ih := pp_len hd he c (aro p) hv2 h3
        omega
/-- what stands behind occurrence u -/
def tr_st (ofs aro G : Nat → Int32) (u : Nat) : Int32 := if G (ofs u).toNatClampNeg = 0 then aro u else nI u
theorem tr_st_v (hd : tr_d aro b e) {u : Nat} (h1 : b ≤ u) (h2 : u < e) : tr_v b e (u + 1) (tr_st ofs aro G u) := by
  unfold tr_st
  split
  · exact (hd.v h1 h2).up (by omega)
  · exact Or.inr ⟨u, h1, by omega, h2, rfl⟩
/-- the order: each occurrence lies in one that still stood -/
def tr_o (ofs aro G : Nat → Int32) (b e : Nat) : Prop := (b < e → aro b = -1) ∧ ∀ t, b < t → t < e → as_rc aro 2048 (aro t) 2048 (tr_st ofs aro G (t - 1))
theorem as_ok_of (hd : tr_d aro b e) (he : e ≤ 2048) (ho : tr_o ofs aro G b e) (hf : ∀ t, b ≤ t → t < e → ∃ f, f < 48 ∧ ofs t = nI f) (hcl : ∀ t, b ≤ t → t < e → ¬ w (ofs t).toNatClampNeg = 0 → aro t = -1 ∨ ∃ q, b ≤ q ∧ q < e ∧ aro t = nI q ∧ ¬ w (ofs q).toNatClampNeg = 0) : ∀ (t k : Nat) (i c : Int32), k + t = e → b ≤ k → (k = b ∧ c = -1 ∨ b < k ∧ c = tr_st ofs aro G (k - 1)) → tr_v b e e i → (∀ tg, (tg = -1 ∨ ∃ q, b ≤ q ∧ q < e ∧ tg = nI q ∧ ¬ w (ofs q).toNatClampNeg = 0) → as_rc aro 2048 tg 2048 c → as_rc aro 2048 tg 2048 i) → as_ok ofs aro G w 2048 2048 t k i := by
  intro t
  induction t with
  | zero =>
    intro k i c hk hbk hc hi hinv
    exact rc_up (rc_end hd he e i hi) he
  | succ t ih =>
    intro k i c hk hbk hc hi hinv
    have hke : k < e := by omega
    have hcv : tr_v b e e c := by
      rcases hc with ⟨-, z⟩ | ⟨z1, z2⟩
      · exact Or.inl z
      · rw [z2]
        exact (tr_st_v hd (by omega) (by omega)).up (by omega)
    have hac : as_rc aro 2048 (aro k) 2048 c := by
      rcases hc with ⟨z1, z2⟩ | ⟨z1, z2⟩
      · rw [z1, z2, ho.1 (by omega)]
        exact rc_rf _
      · rw [z2]
        exact ho.2 k z1 hke
    have nx : k + 1 = b ∧ tr_st ofs aro G k = -1 ∨ b < k + 1 ∧ tr_st ofs aro G k = tr_st ofs aro G (k + 1 - 1) := Or.inr ⟨by omega, by rw [Nat.add_sub_cancel]⟩
    refine ⟨hf k hbk hke, fun hw => ?_, fun hw => ⟨?_, ?_⟩⟩
    · refine ih (k + 1) i _ (by omega) (by omega) nx hi (fun tg hal hr => hinv tg hal ?_)
      have h2 : as_rc aro 2048 tg 2048 (aro k) := by
        unfold tr_st at hr
        by_cases y : G (ofs k).toNatClampNeg = 0
        · rw [if_pos y] at hr; exact hr
        · rw [if_neg y] at hr
          rcases hr with y2 | ⟨q, q1, q2, q3⟩
          · exfalso
            rcases hal with x | ⟨u, u1, u2, x, x2⟩
            · exact nI_nm1 (by omega) (y2.trans x)
            · have : k = u := (nI_eq (by omega) (by omega)).mp (y2.trans x)
              rw [← this] at x2
              exact x2 hw
          · have : k = q := (nI_eq (by omega) (by omega)).mp q2
            rw [← this] at q3
            exact rc_s _ _ q3
      exact rc_cut48 hd he hcv (rc_tr h2 2048 c hac)
    · exact hinv (aro k) (hcl k hbk hke hw) hac
    · exact ih (k + 1) _ _ (by omega) (by omega) nx ((tr_st_v (ofs := ofs) (G := G) hd hbk hke).up (by omega)) (fun tg _ hr => hr)
theorem as_len (hd : tr_d aro b e) (he : e ≤ 2048) : ∀ (t k : Nat) (i : Int32), k + t = e → b ≤ k → tr_v b e e i → as_ok ofs aro G w 2048 2048 t k i → (as_ev ofs aro val G w 2048 t k i).length ≤ 2 * t + (as_pp ofs aro (-1) 2048 i).length := by
  intro t
  induction t with
  | zero =>
    intro k i hk hbk hi hok
    show (as_pp ofs aro (-1) 2048 i).length ≤ _
    omega
  | succ t ih =>
    intro k i hk hbk hi hok
    have hke : k < e := by omega
    obtain ⟨-, h1, h2⟩ := hok
    show (if w (ofs k).toNatClampNeg = 0 then as_ev ofs aro val G w 2048 t (k + 1) i else as_pp ofs aro (aro k) 2048 i ++ (2 * ofs k, val k) :: as_ev ofs aro val G w 2048 t (k + 1) (tr_st ofs aro G k)).length ≤ _
    by_cases z : w (ofs k).toNatClampNeg = 0
    · rw [if_pos z]
      have := ih (k + 1) i (by omega) (by omega) hi (h1 z)
      omega
    · rw [if_neg z, List.length_append, List.length_cons]
      obtain ⟨h3, h4⟩ := h2 z
      have h5 := ih (k + 1) (tr_st ofs aro G k) (by omega) (by omega) ((tr_st_v hd hbk hke).up (by omega)) h4
      have h6 := pp_len (ofs := ofs) hd he 2048 i (hi.up he) h3
      have h7 : (as_pp ofs aro (-1) 2048 (tr_st ofs aro G k)).length ≤ 1 + (as_pp ofs aro (-1) 2048 (aro k)).length := by
        unfold tr_st
        split
        · omega
        · have e1 : as_pp ofs aro (-1) 2048 (nI k) = (2 * ofs (nI k).toNatClampNeg + 1, 0) :: as_pp ofs aro (-1) 2047 (aro (nI k).toNatClampNeg) := if_neg (nI_nm1 (by omega))
          rw [e1, nI_clamp (by omega), List.length_cons, pp_s hd he 2047 (aro k) ((hd.v hbk hke).up (by omega))]
          omega
      omega
end TR
/-- what is wanted is wanted with all that lies around it -/
theorem mk_an {par : Nat → Int32} : ∀ (m : Nat) (g : Int32) (w : Nat → Int32) (f : Nat), (li_an par m g f → mo_mk par m g w f = 1) ∧ (¬ li_an par m g f → mo_mk par m g w f = w f)
  | 0, _, _, _ => ⟨fun z => z.elim, fun _ => rfl⟩
  | m + 1, g, w, f => by
    have eS : mo_mk par (m + 1) g w = if g = -1 then w else mo_mk par m (par g.toNatClampNeg) (upd w g.toNatClampNeg 1) := rfl
    rw [eS]
    by_cases z : g = -1
    · rw [if_pos z]
      exact ⟨fun y => absurd z y.1, fun _ => rfl⟩
    · rw [if_neg z]
      obtain ⟨h1, h2⟩ := mk_an (par := par) m (par g.toNatClampNeg) (upd w g.toNatClampNeg 1) f
      refine ⟨fun y => ?_, fun y => ?_⟩
      · by_cases q : li_an par m (par g.toNatClampNeg) f
        · exact h1 q
        · rw [h2 q]
          exact if_pos (y.2.resolve_right q).symm
      · rw [h2 (fun q => y ⟨z, Or.inr q⟩)]
        exact if_neg (fun q => y ⟨z, Or.inl q.symm⟩)
theorem li_an_par {par : Nat → Int32} {f p : Nat} (hp : p < 2 ^ 31) (hf : par f = nI p) : ∀ (m : Nat) (g : Int32), li_en par m g → li_an par m g f → li_an par m g p
  | 0, _, _, h => h.elim
  | m + 1, g, he, h => by
    refine ⟨h.1, Or.inr ?_⟩
    have he2 := Or.resolve_left he h.1
    rcases h.2 with z | z
    · rw [z, hf] at he2 ⊢
      match m, he2 with
      | 0, he2 => exact absurd he2 (nI_nm1 hp)
      | m + 1, _ => exact ⟨nI_nm1 hp, Or.inl (nI_clamp hp)⟩
    · exact li_an_par hp hf m _ he2 z
theorem wd_up {par G : Nat → Int32} {lo hi : Int32} {n : Nat} {w : Nat → Int32} (hup : mo_up par n) (hn : n ≤ 48) : ∀ i, i ≤ n → (∀ f p, f < n → par f = nI p → p < n → ¬ mo_wd par G lo hi n (mo_z w n) i f = 0 → ¬ mo_wd par G lo hi n (mo_z w n) i p = 0)
  | 0, _, f, p, hf, _, _, h => absurd (show mo_z w n f = 0 from if_pos hf) h
  | i + 1, hin, f, p, hf, hfp, hp, h => by
    have ih := wd_up (G := G) (lo := lo) (hi := hi) (w := w) hup hn i (by omega) f p hf hfp hp
    unfold mo_wd at h ⊢
    split at h
    · rename_i z
      rw [if_pos z]
      obtain ⟨a1, a2⟩ := mk_an (par := par) n (nI i) (mo_wd par G lo hi n (mo_z w n) i) f
      obtain ⟨b1, b2⟩ := mk_an (par := par) n (nI i) (mo_wd par G lo hi n (mo_z w n) i) p
      by_cases y : li_an par n (nI i) p
      · rw [b1 y]; decide
      · rw [b2 y]
        refine ih ?_
        by_cases x : li_an par n (nI i) f
        · exact absurd (li_an_par (by omega) hfp n (nI i) (li_en_up hup hn n (nI i) (Or.inr ⟨i, by omega, rfl⟩) (Nat.le_refl _)) x) y
        · rw [a2 x] at h; exact h
    · rename_i z
      rw [if_neg z]
      exact ih h
end
section
/-! THE REFERENCE'S OCCURRENCES AS A TREE, 3: from call to call. -/
def tr_f (A : Nat → Nat → Int32) (n : Nat) (B : Nat → Nat → Int32) (b e : Nat) : Prop := ∀ t, b ≤ t → t < e → ∃ w, w < n ∧ B 4 t = nI w ∧ (B 6 t = -1 ∧ A 0 w = -1 ∨ ∃ q u, b ≤ q ∧ q < t ∧ B 6 t = nI q ∧ B 4 q = nI u ∧ u < n ∧ A 0 w = nI u)
def tr_R (A : Nat → Nat → Int32) (n : Nat) (B : Nat → Nat → Int32) (b e : Nat) : Prop := tr_f A n B b e ∧ tr_o (B 4) (B 6) (B 3) b e
def tr_A (A : Nat → Nat → Int32) (n : Nat) (B : Nat → Nat → Int32) (J : Nat → Int32) (b k r : Nat) : Prop := ∃ Bn : Nat → Nat, (∀ i, i ≤ r → B 7 i = nI (Bn i) ∧ Bn i ≤ b) ∧ Bn r = b ∧ (∀ i, i < r → Bn i ≤ Bn (i + 1) ∧ tr_R A n B (Bn i) (Bn (i + 1))) ∧ tr_R A n B b (b + k) ∧ (k = 0 ∧ J 13 = -1 ∨ 0 < k ∧ as_rc (B 6) 2048 (J 13) 2048 (tr_st (B 4) (B 6) (B 3) (b + k - 1)))
section TA
variable {A : Nat → Nat → Int32} {B B' : Nat → Nat → Int32} {J J' : Nat → Int32} {n b k r e : Nat}
theorem tr_f.d (h : tr_f A n B b e) : tr_d (B 6) b e := fun t h1 h2 => by
  obtain ⟨w, -, -, z | ⟨q, u, q1, q2, q3, -⟩⟩ := h t h1 h2
  · exact Or.inl z.1
  · exact Or.inr ⟨q, q1, q2, q3⟩
theorem tr_R.cg (h : tr_R A n B b e) (he : e ≤ 2048) (h4 : ∀ q, q < e → B' 4 q = B 4 q) (h6 : ∀ q, q < e → B' 6 q = B 6 q) (h3 : B' 3 = B 3) : tr_R A n B' b e := by
  obtain ⟨hf, ho1, ho2⟩ := h
  have hd := hf.d
  refine ⟨fun t t1 t2 => ?_, fun z => ?_, fun t t1 t2 => ?_⟩
  · obtain ⟨w, hw, e4, z⟩ := hf t t1 t2
    rw [h4 t t2, h6 t t2]
    refine ⟨w, hw, e4, ?_⟩
    rcases z with z | ⟨q, u, q1, q2, q3, q4, q5⟩
    · exact Or.inl z
    · exact Or.inr ⟨q, u, q1, q2, q3, (h4 q (by omega)).trans q4, q5⟩
  · rw [h6 b z]; exact ho1 z
  · have est : tr_st (B' 4) (B' 6) (B' 3) (t - 1) = tr_st (B 4) (B 6) (B 3) (t - 1) := by
      unfold tr_st
      rw [h4 (t - 1) (by omega), h6 (t - 1) (by omega), h3]
    rw [est, h6 t t2]
    exact rc_cg hd he (fun q _ q2 => h6 q q2) 2048 _ ((tr_st_v hd (by omega) (by omega)).up (by omega)) (ho2 t t1 t2)
theorem tr_R.nil : tr_R A n B b b := ⟨fun t h1 h2 => absurd h2 (by omega), fun z => absurd z (Nat.lt_irrefl _), fun t h1 h2 => absurd h2 (by omega)⟩
theorem tr_A.begin (h : tr_A A n B J b 0 r) {x : Int32} (hx : x = nI b) {J' : Nat → Int32} (hJ : J' 13 = -1) : tr_A A n (va_up B 7 (upd (B 7) r x)) J' b 0 r := by
  obtain ⟨Bn, h1, h2, h3, h4, -⟩ := h
  refine ⟨Bn, fun i hi => ?_, h2, h3, h4, Or.inl ⟨rfl, hJ⟩⟩
  show upd (B 7) r x i = nI (Bn i) ∧ Bn i ≤ b
  unfold upd
  by_cases z : i = r
  · rw [if_pos z, z, h2]
    exact ⟨hx, Nat.le_refl _⟩
  · rw [if_neg z]
    exact h1 i hi
theorem tr_A.drop (h : tr_A A n B J b k r) {J' : Nat → Int32} (hJ : J' 13 = -1) : tr_A A n B J' b 0 r := by
  obtain ⟨Bn, h1, h2, h3, h4, -⟩ := h
  exact ⟨Bn, h1, h2, h3, tr_R.nil, Or.inl ⟨rfl, hJ⟩⟩
theorem tr_A.inner (h : tr_A A n B J b k r) (hb : b + k ≤ 2048) {q : Nat} (hq : J 13 = nI q) (q1 : b ≤ q) (q2 : q < b + k) {J' : Nat → Int32} (hJ : J' 13 = B 6 q) : tr_A A n B J' b k r := by
  obtain ⟨Bn, h1, h2, h3, h4, h5⟩ := h
  have hd := h4.1.d
  rcases h5 with ⟨z1, z2⟩ | ⟨z1, z2⟩
  · omega
  · refine ⟨Bn, h1, h2, h3, h4, Or.inr ⟨z1, ?_⟩⟩
    rw [hJ]
    have one : as_rc (B 6) 2048 (B 6 q) 1 (J 13) := Or.inr ⟨q, by omega, hq, rfl⟩
    exact rc_cut48 hd hb ((tr_st_v hd (by omega) (by omega)).up (by omega)) (rc_tr one 2048 _ z2)
theorem tr_A.outer (h : tr_A A n B J b k r) {J' : Nat → Int32} (hJ : J' 13 = -1) : tr_A A n (va_up B 7 (upd (B 7) (r + 1) (nI (b + k)))) J' (b + k) 0 (r + 1) := by
  obtain ⟨Bn, h1, h2, h3, h4, h5⟩ := h
  refine ⟨fun i => if i = r + 1 then b + k else Bn i, fun i hi => ?_, if_pos rfl, fun i hi => ?_, tr_R.nil, Or.inl ⟨rfl, hJ⟩⟩
  · show upd (B 7) (r + 1) (nI (b + k)) i = nI (if i = r + 1 then b + k else Bn i) ∧ (if i = r + 1 then b + k else Bn i) ≤ b + k
    unfold upd
    by_cases z : i = r + 1
    · rw [if_pos z, if_pos z]
      exact ⟨rfl, Nat.le_refl _⟩
    · rw [if_neg z, if_neg z]
      have := h1 i (by omega)
      exact ⟨this.1, by omega⟩
  · show (if i = r + 1 then b + k else Bn i) ≤ (if i + 1 = r + 1 then b + k else Bn (i + 1)) ∧ tr_R A n _ (if i = r + 1 then b + k else Bn i) (if i + 1 = r + 1 then b + k else Bn (i + 1))
    rw [if_neg (by omega)]
    by_cases z : i = r
    · rw [if_pos (by omega), z, h2]
      exact ⟨by omega, h4⟩
    · rw [if_neg (by omega)]
      exact h3 i (by omega)
/-- an occurrence comes -/
theorem tr_A.come (h : tr_A A n B J b k r) (hb : b + k < 2048) {w : Nat} {v : Int32} (hw : w < n) (hn : n ≤ 48) (hps : J 13 = -1 ∧ A 0 w = -1 ∨ ∃ q u, b ≤ q ∧ q < b + k ∧ J 13 = nI q ∧ B 4 q = nI u ∧ u < n ∧ A 0 w = nI u) {J' : Nat → Int32} (hJ : B 3 w = 0 ∧ J' 13 = J 13 ∨ ¬ B 3 w = 0 ∧ J' 13 = nI (b + k)) :
    tr_A A n (va_up (va_up (va_up B 4 (upd (B 4) (b + k) (nI w))) 5 (upd (B 5) (b + k) v)) 6 (upd (B 6) (b + k) (J 13))) J' b (k + 1) r := by
  obtain ⟨Bn, h1, h2, h3, h4, h5⟩ := h
  have n4 : ∀ t, t < b + k → upd (B 4) (b + k) (nI w) t = B 4 t := fun t ht => if_neg (by omega)
  have n6 : ∀ t, t < b + k → upd (B 6) (b + k) (J 13) t = B 6 t := fun t ht => if_neg (by omega)
  have m4 : upd (B 4) (b + k) (nI w) (b + k) = nI w := if_pos rfl
  have m6 : upd (B 6) (b + k) (J 13) (b + k) = J 13 := if_pos rfl
  have hd := h4.1.d
  obtain ⟨g1, g2, g3⟩ := h4.cg (B' := va_up (va_up (va_up B 4 (upd (B 4) (b + k) (nI w))) 5 (upd (B 5) (b + k) v)) 6 (upd (B 6) (b + k) (J 13))) (by omega) n4 n6 rfl
  refine ⟨Bn, h1, h2, fun i hi => ⟨(h3 i hi).1, ?_⟩, ⟨fun t t1 t2 => ?_, fun z => ?_, fun t t1 t2 => ?_⟩, Or.inr ⟨by omega, ?_⟩⟩
  · have hle : Bn (i + 1) ≤ b := (h1 (i + 1) (by omega)).2
    exact (h3 i hi).2.cg (by omega) (fun q hq => n4 q (by omega)) (fun q hq => n6 q (by omega)) rfl
  · by_cases z : t = b + k
    · subst z
      refine ⟨w, hw, m4, ?_⟩
      show upd (B 6) (b + k) (J 13) (b + k) = -1 ∧ A 0 w = -1 ∨ ∃ q u, b ≤ q ∧ q < b + k ∧ upd (B 6) (b + k) (J 13) (b + k) = nI q ∧ upd (B 4) (b + k) (nI w) q = nI u ∧ u < n ∧ A 0 w = nI u
      rw [m6]
      rcases hps with y | ⟨q, u, q1, q2, q3, q4, q5⟩
      · exact Or.inl y
      · exact Or.inr ⟨q, u, q1, q2, q3, (n4 q q2).trans q4, q5⟩
    · exact g1 t t1 (by omega)
  · rcases h5 with ⟨z1, z2⟩ | ⟨z1, z2⟩
    · subst z1
      exact m6.trans z2
    · exact g2 (by omega)
  · by_cases z : t = b + k
    · subst z
      rcases h5 with ⟨z1, z2⟩ | ⟨z1, z2⟩
      · omega
      · have est : tr_st (upd (B 4) (b + k) (nI w)) (upd (B 6) (b + k) (J 13)) (B 3) (b + k - 1) = tr_st (B 4) (B 6) (B 3) (b + k - 1) := by
          unfold tr_st
          rw [n4 _ (by omega), n6 _ (by omega)]
        show as_rc (upd (B 6) (b + k) (J 13)) 2048 (upd (B 6) (b + k) (J 13) (b + k)) 2048 (tr_st (upd (B 4) (b + k) (nI w)) (upd (B 6) (b + k) (J 13)) (B 3) (b + k - 1))
        rw [m6, est]
        exact rc_cg hd (by omega) (fun q _ q2 => n6 q q2) 2048 _ ((tr_st_v hd (by omega) (by omega)).up (by omega)) z2
    · exact g3 t t1 (by omega)
  · show as_rc (upd (B 6) (b + k) (J 13)) 2048 (J' 13) 2048 (tr_st (upd (B 4) (b + k) (nI w)) (upd (B 6) (b + k) (J 13)) (B 3) (b + k))
    unfold tr_st
    rw [m4, m6, nI_clamp (by omega)]
    rcases hJ with ⟨z1, z2⟩ | ⟨z1, z2⟩
    · rw [if_pos z1, z2]; exact rc_rf _
    · rw [if_neg z1, z2]; exact rc_rf _
/-- nothing that is read here has changed -/
theorem tr_A.same (h : tr_A A n B J b k r) (h3 : B' 3 = B 3) (h4 : B' 4 = B 4) (h6 : B' 6 = B 6) (h7 : B' 7 = B 7) (hJ : J' 13 = J 13) : tr_A A n B' J' b k r := by
  unfold tr_A tr_R tr_f at *
  rw [h3, h4, h6, h7, hJ]
  exact h
/-- the events can be told -/
theorem tr_tell (h : tr_R A n B b e) (he : e ≤ 2048) (hn : n ≤ 48) (hup : mo_up (A 0) n) {w val : Nat → Int32} {lo hi : Int32} {z : Nat → Int32} (hw : w = mo_wd (A 0) (B 3) lo hi n (mo_z z n) n) (hbe : b ≤ e) : as_ok (B 4) (B 6) (B 3) w 2048 2048 (e - b) b (-1) ∧ (as_ev (B 4) (B 6) val (B 3) w 2048 (e - b) b (-1)).length ≤ 4096 := by
  have hd := h.1.d
  have hok : as_ok (B 4) (B 6) (B 3) w 2048 2048 (e - b) b (-1) := by
    refine as_ok_of hd he h.2 (fun t t1 t2 => ?_) (fun t t1 t2 hwt => ?_) (e - b) b (-1) (-1) (by omega) (Nat.le_refl _) (Or.inl ⟨rfl, rfl⟩) (Or.inl rfl) (fun tg _ hr => hr)
    · obtain ⟨f, hf, e4, -⟩ := h.1 t t1 t2
      exact ⟨f, by omega, e4⟩
    · obtain ⟨f, hf, e4, y | ⟨q, u, q1, q2, q3, q4, q5, q6⟩⟩ := h.1 t t1 t2
      · exact Or.inl y.1
      · refine Or.inr ⟨q, q1, by omega, q3, ?_⟩
        rw [q4, nI_clamp (by omega)]
        rw [e4, nI_clamp (by omega)] at hwt
        subst hw
        exact wd_up hup hn n (Nat.le_refl _) f u hf q6 q5 hwt
  refine ⟨hok, ?_⟩
  have h1 := as_len (val := val) hd he (e - b) b (-1) (by omega) (Nat.le_refl _) (Or.inl rfl) hok
  have h2 : as_pp (B 4) (B 6) (-1) 2048 (-1) = [] := if_pos rfl
  rw [h2] at h1
  have h3 : ([] : List as_E).length = 0 := rfl
  omega
end TA
end
section
/-! BOTH TOGETHER. gj_P: Striping's cells, the reference's, and the links between them. gi_P: the same with the places that the law holds: x0 Striping, m0 the reference, sb the script (L ints xs). -/
def gj_P (c1 c2 : Nat) (a : Nat → Nat) (D : Nat → Option ri_E) (σ : ri_S) (A : Nat → Nat → Int32) (S : Nat → Int64) (I F V G W : Nat → Int32) (k dp : Nat) (bg : Int32) (N : Nat) (col : Nat → List co_E) (ev : List (Int32 × Int32)) (cr co : Int32) (B : Nat → Nat → Int32) (J : Nat → Int32) (n lw b r : Nat) : Prop :=
  cl_P c1 c2 a D σ A S I F V G W k dp bg N col ev cr co ∧ mh_P a D B J ∧ li_S A I B J n lw ∧ (∀ f, f < n → B 3 f = 0 ∨ B 3 f = 1) ∧ li_D A n G W k dp bg cr co B J b r ∧ tr_A A n B J b k r ∧ (J 5 = 0 → N = 0 ∧ b = 0 ∧ k = 0 ∧ r = 0 ∧ bg = 0) ∧ ∃ v, J 23 = nI v ∧ v ≤ 4096
def gl_P (x0 m0 sb L : Nat) (xs : Nat → Int32) (a : Nat → Nat) (D : Nat → Option ri_E) : Prop := a 0 = x0 ∧ a 70 = m0 ∧ a 98 = sb ∧ D 98 = some (.inl (.object "", L, .inl xs))
def gi_P (c1 c2 x0 m0 sb L : Nat) (xs : Nat → Int32) (σ : ri_S) : Prop := ∃ a D A S I F V G W k dp bg N col ev cr co B J n lw b r, gl_P x0 m0 sb L xs a D ∧ gj_P c1 c2 a D σ A S I F V G W k dp bg N col ev cr co B J n lw b r
/-- what the law needs between the two calls -/
def hs_P (m0 sb L : Nat) (xs : Nat → Int32) (σ : ri_S) : Prop := σ.1 sb = some (.inl (.object "", L, .inl xs)) ∧ ∃ fs, σ.1 m0 = some (.inr (5, fs))
section OPS
variable {c1 c2 x0 m0 sb L : Nat} {xs : Nat → Int32} {a a' : Nat → Nat} {D D' : Nat → Option ri_E} {σ σ' σ'' : ri_S} {A : Nat → Nat → Int32} {S : Nat → Int64} {I F V G W : Nat → Int32} {k dp : Nat} {bg : Int32} {N : Nat} {col : Nat → List co_E} {ev : List (Int32 × Int32)} {cr co : Int32} {B B' : Nat → Nat → Int32} {J J' : Nat → Int32} {n lw b r d : Nat} {Q : Option Value → ri_S → Prop}
theorem gl_P.fr (h : gl_P x0 m0 sb L xs a D) (hF : cl_F a D a' D') : gl_P x0 m0 sb L xs a' D' := ⟨hF.2.trans h.1, (hF.1 70 (by decide)).2.trans h.2.1, (hF.1 98 (by decide)).2.trans h.2.2.1, (hF.1 98 (by decide)).1.trans h.2.2.2⟩
theorem mh_P.cf (h : mh_P a D B J) (hF : cl_F a D a' D') : mh_P a' D' B J := h.fr (fun i h1 h2 => hF.1 i (by omega))
theorem hs_of (hl : gl_P x0 m0 sb L xs a D) (hm : mh_P a D B J) (hG : gw_P a D σ) : hs_P m0 sb L xs σ := by
  obtain ⟨-, rfl, rfl, h4⟩ := hl
  exact ⟨hG.at h4, _, hG.at hm.2.1⟩
/-- the reference's cells change, Striping's stay -/
theorem cl_P.um (h : cl_P c1 c2 a D σ A S I F V G W k dp bg N col ev cr co) (h1 : gw_P a D' σ') (h3 : gw_F 70 84 a D a D') (h4 : σ'.2 = σ.2) : cl_P c1 c2 a D' σ' A S I F V G W k dp bg N col ev cr co := by
  obtain ⟨hG, lf, lv, le, ln, C, tk, ch, ho, hs, hd, he, hC, hc, hr⟩ := h
  refine ⟨h1, lf, lv, le, ln, C, tk, ch, (h3 0 (by decide)).1.trans ho, hs.fr (fun i _ _ => h3 i (by omega)), hd.fr (fun i _ _ => h3 i (by omega)), he.fr (fun i _ _ => h3 i (by omega)), (h3 8 (by decide)).1.trans hC, hc.fr (fun i _ _ => h3 i (by omega)), ?_⟩
  rw [h4]
  exact hr
theorem gl_P.um (h : gl_P x0 m0 sb L xs a D) (h3 : gw_F 70 84 a D a D') : gl_P x0 m0 sb L xs a D' := ⟨h.1, h.2.1, h.2.2.1, (h3 98 (by decide)).1.trans h.2.2.2⟩
theorem li_S.same (h : li_S A I B J n lw) (hB : ∀ i, i < 8 → B' i = B i) (hJ : ∀ j, j < 16 → J' j = J j) : li_S A I B' J' n lw := by
  unfold li_S at *
  rw [hB 0 (by decide), hB 1 (by decide), hB 2 (by decide), hB 3 (by decide), hJ 4 (by decide), hJ 5 (by decide)]
  exact h
theorem li_D.same (h : li_D A n G W k dp bg cr co B J b r) (hB : ∀ i, i < 8 → B' i = B i) (hJ : ∀ j, j < 16 → J' j = J j) : li_D A n G W k dp bg cr co B' J' b r := by
  unfold li_D li_O li_Pj li_L li_hs at *
  rw [hB 4 (by decide), hB 6 (by decide), hB 7 (by decide), hJ 9 (by decide), hJ 11 (by decide), hJ 12 (by decide), hJ 13 (by decide)]
  exact h
/-- the reference's other cells change -/
theorem gj_P.same (h : gj_P c1 c2 a D σ A S I F V G W k dp bg N col ev cr co B J n lw b r) (h1 : cl_P c1 c2 a' D' σ' A S I F V G W k dp bg N col ev cr co) (h2 : mh_P a' D' B' J') (hB : ∀ i, i < 8 → B' i = B i) (hJ : ∀ j, j < 16 → J' j = J j) (hv : ∃ v, J' 23 = nI v ∧ v ≤ 4096) : gj_P c1 c2 a' D' σ' A S I F V G W k dp bg N col ev cr co B' J' n lw b r := by
  obtain ⟨-, -, g1, g2, g3, g4, g5, -⟩ := h
  refine ⟨h1, h2, g1.same hB hJ, ?_, g3.same hB hJ, g4.same (hB 3 (by decide)) (hB 4 (by decide)) (hB 6 (by decide)) (hB 7 (by decide)) (hJ 13 (by decide)), ?_, hv⟩
  · rw [hB 3 (by decide)]; exact g2
  · rw [hJ 5 (by decide)]; exact g5
set_option maxRecDepth 100000 in
/-- field -/
theorem op_field (h : gi_P c1 c2 x0 m0 sb L xs σ) {p kd gb : Int32} (hgb : gb = 0 ∨ gb = 1) (kk : ∀ (v : Int32) (σ1 : ri_S), hs_P m0 sb L xs σ1 → (∀ (d2 : Nat) (Q2 : Option Value → ri_S → Prop), (∀ σ2, gi_P c1 c2 x0 m0 sb L xs σ2 → Q2 (some (.int v)) σ2) → ev_W (d2 + 10) mMo_field (0, [some (.ref m0), some (.int p), some (.int kd), some (.int gb)], []) σ1 Q2) → Q (some (.int v)) σ1) : ev_W (d + 70) mSt_field (0, [some (.ref x0), some (.int p), some (.int kd), some (.int gb)], []) σ Q := by
  have h0 := h
  obtain ⟨a, D, A, S, I, F, V, G, W, k, dp, bg, N, col, ev, cr, co, B, J, n, lw, b, r, hl, hc, hm, hS, hB3, hD, hT, hZ, hv⟩ := h
  have hS0 := hS
  obtain ⟨hn, hI8, hJ4, hr, hI9, hlw, hup, hde, ⟨e0, e1, e2⟩, h5, hE⟩ := hS
  have hl0 := hl
  obtain ⟨rfl, rfl, rfl, hl4⟩ := hl
  have hup0 : mo_up (B 0) n := by rw [e0]; exact hup
  refine cl_field hc hI8 hn hI9 hup (fun z => ?_) (fun z D1 σ1 hc1 hF1 => ?_)
  · refine kk (-1) σ (hs_of hl0 hm hc.1) (fun d2 Q2 k2 => ?_)
    refine mo_field (σ0 := σ) ⟨hm.mo hc.1, fun _ _ => rfl, rfl⟩ hJ4 hn hup0 hgb (fun _ => k2 σ h0) (fun σ2 y1 y2 y3 y4 y5 _ => ?_)
    exact absurd ((li_yes hS0).mpr ⟨y1, y2, y3, y4, y5⟩) z
  · have hm1 := hm.cf hF1
    refine kk (nI n) σ1 (hs_of (hl0.fr hF1) hm1 hc1.1) (fun d2 Q2 k2 => ?_)
    obtain ⟨y1, y2, y3, y4, y5⟩ := (li_yes hS0).mp z
    refine mo_field (σ0 := σ1) ⟨hm1.mo hc1.1, fun _ _ => rfl, rfl⟩ hJ4 hn hup0 hgb (fun q => ?_) (fun σ2 _ _ _ _ _ hW => k2 σ2 ?_)
    · exfalso
      rcases q with q | q | q | q | q | q | ⟨q, q2⟩
      · exact q y1
      · omega
      · exact y3 q
      · exact y4 q
      · rcases y5 with x | ⟨w, hw, x, -⟩
        · rw [x] at q; exact absurd q (by decide)
        · rw [x] at q; exact nI_m1 (by omega) (Int32.le_of_lt q)
      · rcases y5 with x | ⟨w, hw, x, -⟩
        · rw [x] at q; exact nI_m1 (by omega) q
        · rw [x] at q
          have := (nI_leI (by omega) (by omega)).mp q
          omega
      · rcases y5 with x | ⟨w, hw, x, x1, x2, x3⟩
        · exact q x
        · rw [x, nI_clamp (by omega)] at q2
          rw [x] at x2
          rcases q2 with q2 | q2 | q2
          · exact x1 q2
          · exact q2 x2
          · exact x3 q2
    · obtain ⟨D2, g1, g2, g3, g4⟩ := hm1.up hc1.1 hW
      obtain ⟨z1, z2, z3, z4, z5⟩ := hZ y1
      subst z1
      subst z2
      subst z3
      subst z4
      subst z5
      refine ⟨a, D2, _, _, _, F, V, G, W, 0, dp, 0, 0, col, ev, cr, co, _, _, n + 1, _, 0, 0, (hl0.fr hF1).um g3, hc1.um g1 g3 g4, g2, hS0.add z, fun f hf => ?_, ?_, ?_, fun _ => ⟨rfl, rfl, rfl, rfl, rfl⟩, hv⟩
      · show upd (B 3) n gb f = 0 ∨ upd (B 3) n gb f = 1
        unfold upd
        by_cases x : f = n
        · rw [if_pos x]; exact hgb
        · rw [if_neg x]; exact hB3 f (by omega)
      · obtain ⟨⟨d1, d2', d3, d4⟩, ⟨d5, d6, d7, d8, d9, d10, d11⟩, d13, d12⟩ := hD
        exact ⟨⟨d1, d2', d3, d4⟩, ⟨d5, d6, d7, d8, d9, d10, d11⟩, fun t t1 t2 => absurd t2 (by omega), fun x => absurd rfl x⟩
      · obtain ⟨Bn, t1, t2, t3, t4, t5⟩ := hT
        exact ⟨Bn, t1, t2, fun i hi => absurd hi (Nat.not_lt_zero _), tr_R.nil, Or.inl ⟨rfl, (t5.resolve_right (fun y => absurd y.1 (by decide))).2⟩⟩
theorem li_full (hS : li_S A I B J n lw) : sc_full A n ↔ ∀ f, f < n → mo_full B n f := by
  have hg := fun w hw => li_grp (w := w) hS hw
  obtain ⟨hn, hI8, hJ4, hr, hI9, hlw, hup, hde, ⟨e0, e1, e2⟩, h5, hE⟩ := hS
  unfold sc_full mo_full
  rw [e0]
  refine forall_congr' fun f => forall_congr' fun hf => ?_
  rw [hg f hf]
  obtain ⟨e, he, h1, h2, -, h4, -⟩ := hE f hf
  rw [he, nI_eq (by omega) (by omega), h4]
  by_cases z : B 3 f = 0
  · exact ⟨fun _ => Or.inl z, fun _ y => absurd z y⟩
  · by_cases y : ∃ g, g < n ∧ A 0 g = nI f
    · exact ⟨fun _ => Or.inr y, fun _ _ x => x y⟩
    · exact ⟨fun x => absurd y (x z), fun x => absurd x (fun q => q.elim z y)⟩
set_option maxRecDepth 100000 in
/-- ready -/
theorem op_ready (h : gi_P c1 c2 x0 m0 sb L xs σ) (kk : ∀ (v : Int32) (σ1 : ri_S), hs_P m0 sb L xs σ1 → (∀ (d2 : Nat) (Q2 : Option Value → ri_S → Prop), (∀ σ2, gi_P c1 c2 x0 m0 sb L xs σ2 → Q2 (some (.int v)) σ2) → ev_W (d2 + 10) mMo_ready (0, [some (.ref m0), none, none, none, none], []) σ1 Q2) → Q (some (.int v)) σ1) : ev_W (d + 70) mSt_ready (0, [some (.ref x0)], []) σ Q := by
  have h0 := h
  obtain ⟨a, D, A, S, I, F, V, G, W, k, dp, bg, N, col, ev, cr, co, B, J, n, lw, b, r, hl, hc, hm, hS, hB3, hD, hT, hZ, hv⟩ := h
  have hS0 := hS
  obtain ⟨hn, hI8, hJ4, hr, hI9, hlw, hup, hde, ⟨e0, e1, e2⟩, h5, hE⟩ := hS
  have hl0 := hl
  obtain ⟨rfl, rfl, rfl, hl4⟩ := hl
  have hlw2 : lw ≤ 48 := by rw [hlw]; exact Nat.le_trans (mo_lv_le _ _) hn
  have iff1 : (I 10 = 0 ∧ 0 < n ∧ sc_full A n) ↔ ((J 5 = 0 ∧ 0 < n) ∧ ∀ f, f < n → mo_full B n f) := by
    rw [hr, li_full hS0, and_assoc]
  refine cl_ready hc hI8 hn hI9 hlw2 (fun z => (hZ (hr.symm.trans z)).1) (fun z => ?_) (fun z a1 D1 σ1 hc1 hF1 => ?_)
  · refine kk (-1) σ (hs_of hl0 hm hc.1) (fun d2 Q2 k2 => ?_)
    refine mo_ready (σ0 := σ) ⟨hm.mo hc.1, fun _ _ => rfl, rfl⟩ hJ4 hn (fun _ => k2 σ h0) (fun σ2 y _ => absurd (iff1.mpr y) z)
  · have hm1 := hm.cf hF1
    have hl1 := hl0.fr hF1
    refine kk (nI lw) σ1 (hs_of hl1 hm1 hc1.1) (fun d2 Q2 k2 => ?_)
    rw [← hl1.2.1]
    refine mo_ready (σ0 := σ1) ⟨hm1.mo hc1.1, fun _ _ => rfl, rfl⟩ hJ4 hn (fun q => absurd (iff1.mp z) q) (fun σ2 _ hW => ?_)
    rw [← hlw]
    refine k2 σ2 ?_
    obtain ⟨D2, g1, g2, g3, g4⟩ := hm1.up hc1.1 hW
    refine ⟨a1, D2, A, S, _, F, V, G, W, k, dp, bg, lw, _, ev, cr, co, B, _, n, lw, b, r, hl1.um g3, hc1.um g1 g3 g4, g2, ⟨hn, hI8, hJ4, rfl, hI9, hlw, hup, hde, ⟨e0, e1, e2⟩, h5, hE⟩, hB3, hD, hT, fun x => absurd (show (1 : Int32) = 0 from x) (by decide), hv⟩
set_option maxRecDepth 100000 in
/-- begin -/
theorem op_begin (h : gi_P c1 c2 x0 m0 sb L xs σ) (kk : ∀ (v : Int32) (σ1 : ri_S), hs_P m0 sb L xs σ1 → (∀ (d2 : Nat) (Q2 : Option Value → ri_S → Prop), (∀ σ2, gi_P c1 c2 x0 m0 sb L xs σ2 → Q2 (some (.int v)) σ2) → ev_W (d2 + 10) mMo_begin (0, [some (.ref m0)], []) σ1 Q2) → Q (some (.int v)) σ1) : ev_W (d + 70) mSt_begin (0, [some (.ref x0)], []) σ Q := by
  have h0 := h
  obtain ⟨a, D, A, S, I, F, V, G, W, k, dp, bg, N, col, ev, cr, co, B, J, n, lw, b, r, hl, hc, hm, hS, hB3, hD, hT, hZ, hv⟩ := h
  have hD0 := hD
  obtain ⟨⟨d1, d2', d3, d4⟩, ⟨d5, d6, d7, d8, d9, d10, d11⟩, d13, d12⟩ := hD
  have hl0 := hl
  obtain ⟨rfl, rfl, rfl, hl4⟩ := hl
  have iff1 : (¬ I 10 = 0 ∧ bg = 0 ∧ cr < 128) ↔ (¬ J 5 = 0 ∧ J 12 = 0 ∧ r < 128) := by
    rw [hS.2.2.2.1, d10, d5, show (128 : Int32) = nI 128 from rfl, nI_ltI (by omega) (by decide)]
  refine cl_begin hc (fun z => ?_) (fun z D1 σ1 hc1 hF1 => ?_)
  · refine kk 0 σ (hs_of hl0 hm hc.1) (fun d2 Q2 k2 => ?_)
    refine mo_begin (σ0 := σ) ⟨hm.mo hc.1, fun _ _ => rfl, rfl⟩ d6 d1 (fun _ => k2 σ h0) (fun σ2 y _ => absurd (iff1.mpr y) z)
  · have hm1 := hm.cf hF1
    refine kk 1 σ1 (hs_of (hl0.fr hF1) hm1 hc1.1) (fun d2 Q2 k2 => ?_)
    obtain ⟨y1, y2, y3⟩ := iff1.mp z
    refine mo_begin (σ0 := σ1) ⟨hm1.mo hc1.1, fun _ _ => rfl, rfl⟩ d6 d1 (fun q => absurd (iff1.mp z) q) (fun σ2 _ hW => k2 σ2 ?_)
    obtain ⟨D2, g1, g2, g3, g4⟩ := hm1.up hc1.1 hW
    have hk0 : k = 0 := (d3 z.2.1).1
    subst hk0
    refine ⟨a, D2, A, S, I, F, V, _, _, 0, 0, 1, N, col, ev, cr, co, _, _, n, lw, b, r, (hl0.fr hF1).um g3, hc1.um g1 g3 g4, g2, hS, hB3, hD0.begin hS.1 z.2.1 y3, hT.begin d9 rfl, fun x => absurd x y1, hv⟩
set_option maxRecDepth 100000 in
/-- drop -/
theorem op_drop (h : gi_P c1 c2 x0 m0 sb L xs σ) (kk : ∀ (v : Int32) (σ1 : ri_S), hs_P m0 sb L xs σ1 → (∀ (d2 : Nat) (Q2 : Option Value → ri_S → Prop), (∀ σ2, gi_P c1 c2 x0 m0 sb L xs σ2 → Q2 (some (.int v)) σ2) → ev_W (d2 + 10) mMo_drop (0, [some (.ref m0)], []) σ1 Q2) → Q (some (.int v)) σ1) : ev_W (d + 70) mSt_drop (0, [some (.ref x0)], []) σ Q := by
  have h0 := h
  obtain ⟨a, D, A, S, I, F, V, G, W, k, dp, bg, N, col, ev, cr, co, B, J, n, lw, b, r, hl, hc, hm, hS, hB3, hD, hT, hZ, hv⟩ := h
  have hD0 := hD
  obtain ⟨⟨d1, d2', d3, d4⟩, ⟨d5, d6, d7, d8, d9, d10, d11⟩, d13, d12⟩ := hD
  have hl0 := hl
  obtain ⟨rfl, rfl, rfl, hl4⟩ := hl
  refine cl_drop hc (fun z => ?_) (fun z D1 σ1 hc1 hF1 => ?_)
  · refine kk 0 σ (hs_of hl0 hm hc.1) (fun d2 Q2 k2 => ?_)
    refine mo_drop (σ0 := σ) ⟨hm.mo hc.1, fun _ _ => rfl, rfl⟩ d6 d1 (fun _ => k2 σ h0) (fun σ2 y _ => absurd (d10.trans z) y)
  · have hm1 := hm.cf hF1
    refine kk 1 σ1 (hs_of (hl0.fr hF1) hm1 hc1.1) (fun d2 Q2 k2 => ?_)
    refine mo_drop (σ0 := σ1) ⟨hm1.mo hc1.1, fun _ _ => rfl, rfl⟩ d6 d1 (fun q => absurd (d10.symm.trans q) z) (fun σ2 _ hW => k2 σ2 ?_)
    obtain ⟨D2, g1, g2, g3, g4⟩ := hm1.up hc1.1 hW
    refine ⟨a, D2, A, S, I, F, V, G, W, 0, 0, 0, N, col, ev, cr, co, B, _, n, lw, b, r, (hl0.fr hF1).um g3, hc1.um g1 g3 g4, g2, hS, hB3, hD0.drop, hT.drop rfl, fun x => ?_, hv⟩
    have := hZ x
    exact absurd this.2.2.2.2 z
set_option maxRecDepth 100000 in
/-- records -/
theorem op_records (h : gi_P c1 c2 x0 m0 sb L xs σ) (kk : ∀ (v : Int32) (σ1 : ri_S), hs_P m0 sb L xs σ1 → (∀ (d2 : Nat) (Q2 : Option Value → ri_S → Prop), (∀ σ2, gi_P c1 c2 x0 m0 sb L xs σ2 → Q2 (some (.int v)) σ2) → ev_W (d2 + 10) mMo_records (0, [some (.ref m0)], []) σ1 Q2) → Q (some (.int v)) σ1) : ev_W (d + 70) mSt_records (0, [some (.ref x0)], []) σ Q := by
  have h0 := h
  obtain ⟨a, D, A, S, I, F, V, G, W, k, dp, bg, N, col, ev, cr, co, B, J, n, lw, b, r, hl, hc, hm, hS, hB3, hD, hT, hZ, hv⟩ := h
  obtain ⟨⟨d1, d2', d3, d4⟩, ⟨d5, d6, d7, d8, d9, d10, d11⟩, d13, d12⟩ := hD
  have hl0 := hl
  obtain ⟨rfl, rfl, rfl, hl4⟩ := hl
  refine cl_records hc ?_
  refine kk cr σ (hs_of hl0 hm hc.1) (fun d2 Q2 k2 => ?_)
  refine mo_records (hm.mo hc.1) ?_
  rw [d6, ← d5]
  exact k2 σ h0
end OPS
end
section
/-! BOTH TOGETHER: an occurrence comes, a group ends, the reads. -/
section OPS2
variable {c1 c2 x0 m0 sb L : Nat} {xs : Nat → Int32} {a a' : Nat → Nat} {D D' : Nat → Option ri_E} {σ σ' σ'' : ri_S} {A : Nat → Nat → Int32} {S : Nat → Int64} {I F V G W : Nat → Int32} {k dp : Nat} {bg : Int32} {N : Nat} {col : Nat → List co_E} {ev : List (Int32 × Int32)} {cr co : Int32} {B B' : Nat → Nat → Int32} {J J' : Nat → Int32} {n lw b r d : Nat} {Q : Option Value → ri_S → Prop}
/-- what the reference is given -/
theorem li_in (h : li_D A n G W k dp bg cr co B J b r) : J 13 = -1 ∨ ∃ q, q < b + k ∧ J 13 = nI q := by
  obtain ⟨⟨d1, d2', d3, d4⟩, ⟨d5, d6, d7, d8, d9, d10, d11⟩, d13, d12⟩ := h
  by_cases z : bg = 0
  · exact Or.inl (d3 z).2
  · obtain ⟨P, o1, o2, o3, o4, o5, o6, o7⟩ := d12 z
    rw [o4]
    match dp, o6 with
    | 0, _ => exact Or.inl o2
    | j + 1, o6 =>
      obtain ⟨q, w, e1, e2, e3, -⟩ := o6 j (by omega)
      exact Or.inr ⟨q, e3, e1⟩
/-- where an occurrence of w comes to lie -/
theorem li_where (h : li_D A n G W k dp bg cr co B J b r) (hbg : ¬ bg = 0) {w : Nat} (hps : A 0 w = G dp) : J 13 = -1 ∧ A 0 w = -1 ∨ ∃ q u, b ≤ q ∧ q < b + k ∧ J 13 = nI q ∧ B 4 q = nI u ∧ u < n ∧ A 0 w = nI u := by
  obtain ⟨-, -, -, d12⟩ := h
  obtain ⟨P, o1, o2, o3, o4, o5, o6, o7⟩ := d12 hbg
  rw [o4, hps]
  match dp, o6 with
  | 0, _ => exact Or.inl ⟨o2, o3⟩
  | j + 1, o6 =>
    obtain ⟨q, w, e1, e2, e3, e4, e5, e6, hw, -⟩ := o6 j (by omega)
    exact Or.inr ⟨q, w, e2, e3, e1, e5, hw, e6⟩
/-- the required ones ahead of w are there -/
theorem li_ahead (hS : li_S A I B J n lw) (h : li_D A n G W k dp bg cr co B J b r) {w : Nat} {gb : Int32} (hw : w < n) (hm : mo_may B J n b (b + k) (nI w) gb) (hps : A 0 w = G dp) : ∀ P : Nat → Int32, J 13 = P dp → ∀ g, g < n → A 0 g = G dp → A 1 g = 0 → g < w → li_hs B b k (P dp) (nI g) := by
  intro P hP g hg g1 g2 g3
  obtain ⟨hn, -, -, -, -, -, -, -, ⟨e0, e1, e2⟩, -, -⟩ := hS
  obtain ⟨-, w', hw', ew, -, -, -, -, hcg⟩ := hm
  obtain rfl : w = w' := (nI_eq (by omega) (by omega)).mp ew
  have := hcg g hg
  unfold mo_cg at this
  rw [e0, e1] at this
  rcases (this (g1.trans hps.symm)).1 with x | x | x
  · omega
  · exact absurd g2 x
  · exact (li_hs_iff hP g).mp x
theorem li_nm (hS : li_S A I B J n lw) (hD : li_D A n G W k dp bg cr co B J b r) (hG3 : ∀ f, f < n → B 3 f = 0 ∨ B 3 f = 1) {f gb : Int32} {q : Nat} (hq : (if W dp + 1 < 0 then 0 else W dp + 1) = nI q) (hq2 : q < 2 ^ 31) : (∃ w, w < n ∧ f = nI w ∧ B 3 w = gb ∧ cl_may A n G W k dp bg co q w) ↔ mo_may B J n b (b + k) f gb := by
  constructor
  · rintro ⟨w, hw, rfl, h3, hm⟩
    exact (li_may hS hD hG3 hw h3 hq hq2).mp hm
  · intro hm
    obtain ⟨-, w, hw, ew, h3, -⟩ := id hm
    subst ew
    exact ⟨w, hw, rfl, h3, (li_may hS hD hG3 hw h3 hq hq2).mpr hm⟩
set_option maxRecDepth 100000 in
/-- leaf -/
theorem op_leaf (h : gi_P c1 c2 x0 m0 sb L xs σ) {f x : Int32} (kk : ∀ (v : Int32) (σ1 : ri_S), hs_P m0 sb L xs σ1 → (∀ (d2 : Nat) (Q2 : Option Value → ri_S → Prop), (∀ σ2, gi_P c1 c2 x0 m0 sb L xs σ2 → Q2 (some (.int v)) σ2) → ev_W (d2 + 10) mMo_leaf (0, [some (.ref m0), some (.int f), some (.int x)], []) σ1 Q2) → Q (some (.int v)) σ1) : ev_W (d + 70) mSt_leaf (0, [some (.ref x0), some (.int f), some (.int x)], []) σ Q := by
  have h0 := h
  obtain ⟨a, D, A, S, I, F, V, G, W, k, dp, bg, N, col, ev, cr, co, B, J, n, lw, b, r, hl, hc, hm, hS, hB3, hD, hT, hZ, hv⟩ := h
  have hD0 := hD
  obtain ⟨⟨d1, d2', d3, d4⟩, ⟨d5, d6, d7, d8, d9, d10, d11⟩, d13, d12⟩ := hD
  have hl0 := hl
  obtain ⟨rfl, rfl, rfl, hl4⟩ := hl
  have hn := hS.1
  obtain ⟨q, hq, hq2⟩ := li_q0 (W dp)
  have nm := li_nm (f := f) (gb := 0) hS hD0 hB3 hq hq2
  have hk : k < 2048 ∨ ¬ co + nI k < 2048 := by
    rcases Nat.lt_or_ge k 2048 with y | y
    · exact Or.inl y
    · refine Or.inr (fun z => ?_)
      rw [d8, nI_add, show (2048 : Int32) = nI 2048 from rfl, nI_ltI (by omega) (by decide)] at z
      omega
  have conv : (∃ w, w < n ∧ f = nI w ∧ ¬ A 5 w = -1 ∧ cl_may A n G W k dp bg co q w) ↔ mo_may B J n b (b + k) f 0 := by
    rw [← nm]
    refine exists_congr fun w => and_congr_right fun hw => and_congr_right fun _ => and_congr_left fun _ => ?_
    rw [li_grp hS hw]
    exact ⟨fun y => Decidable.of_not_not y, fun y z => z y⟩
  refine cl_leaf hc hS.2.1 hn hk hq hq2 (fun z => ?_) (fun w hw ew z1 z2 a1 D1 σ1 F1 V1 _ _ _ hc1 hF1 => ?_)
  · refine kk 0 σ (hs_of hl0 hm hc.1) (fun d2 Q2 k2 => ?_)
    refine mo_leaf (σ0 := σ) ⟨hm.mo hc.1, fun _ _ => rfl, rfl⟩ hS.2.2.1 hn d6 d1 d7 (by omega) d9 d2' (li_in hD0) (fun _ => k2 σ h0) (fun σ2 y _ => absurd (conv.mpr y) z)
  · have hm1 := hm.cf hF1
    have hl1 := hl0.fr hF1
    have hmay := conv.mp ⟨w, hw, ew, z1, z2⟩
    refine kk 1 σ1 (hs_of hl1 hm1 hc1.1) (fun d2 Q2 k2 => ?_)
    rw [← hl1.2.1]
    refine mo_leaf (σ0 := σ1) ⟨hm1.mo hc1.1, fun _ _ => rfl, rfl⟩ hS.2.2.1 hn d6 d1 d7 (by omega) d9 d2' (li_in hD0) (fun y => absurd hmay y) (fun σ2 _ hW => k2 σ2 ?_)
    obtain ⟨D2, g1, g2, g3, g4⟩ := hm1.up hc1.1 hW
    subst ew
    have hbg : ¬ bg = 0 := z2.1
    have hb3 : B 3 w = 0 := by
      have := (not_congr (li_grp hS hw)).mp z1
      exact Decidable.of_not_not this
    have hlt : b + k < 2048 := by
      obtain ⟨-, _, _, _, _, _, y, _⟩ := id hmay
      exact y
    refine ⟨a1, D2, A, S, I, F1, V1, G, _, k + 1, dp, bg, N, col, ev, cr, co, _, _, n, lw, b, r, hl1.um g3, hc1.um g1 g3 g4, g2, hS, hB3, li_come hn hD0 hbg hlt hw z2.2.1 z2.2.2.2.1 (li_ahead hS hD0 hw hmay z2.2.1), hT.come hlt hw hn (li_where hD0 hbg z2.2.1) (Or.inl ⟨hb3, rfl⟩), fun y => ?_, hv⟩
    exact absurd (hZ y).2.2.2.2 hbg
set_option maxRecDepth 100000 in
/-- open -/
theorem op_open (h : gi_P c1 c2 x0 m0 sb L xs σ) {f : Int32} (kk : ∀ (v : Int32) (σ1 : ri_S), hs_P m0 sb L xs σ1 → (∀ (d2 : Nat) (Q2 : Option Value → ri_S → Prop), (∀ σ2, gi_P c1 c2 x0 m0 sb L xs σ2 → Q2 (some (.int v)) σ2) → ev_W (d2 + 10) mMo_open (0, [some (.ref m0), some (.int f)], []) σ1 Q2) → Q (some (.int v)) σ1) : ev_W (d + 70) mSt_open (0, [some (.ref x0), some (.int f)], []) σ Q := by
  have h0 := h
  obtain ⟨a, D, A, S, I, F, V, G, W, k, dp, bg, N, col, ev, cr, co, B, J, n, lw, b, r, hl, hc, hm, hS, hB3, hD, hT, hZ, hv⟩ := h
  have hD0 := hD
  obtain ⟨⟨d1, d2', d3, d4⟩, ⟨d5, d6, d7, d8, d9, d10, d11⟩, d13, d12⟩ := hD
  have hl0 := hl
  obtain ⟨rfl, rfl, rfl, hl4⟩ := hl
  have hn := hS.1
  obtain ⟨q, hq, hq2⟩ := li_q0 (W dp)
  have nm := li_nm (f := f) (gb := 1) hS hD0 hB3 hq hq2
  have hk : k < 2048 ∨ ¬ co + nI k < 2048 := by
    rcases Nat.lt_or_ge k 2048 with y | y
    · exact Or.inl y
    · refine Or.inr (fun z => ?_)
      rw [d8, nI_add, show (2048 : Int32) = nI 2048 from rfl, nI_ltI (by omega) (by decide)] at z
      omega
  have conv : (∃ w, w < n ∧ f = nI w ∧ A 5 w = -1 ∧ cl_may A n G W k dp bg co q w) ↔ mo_may B J n b (b + k) f 1 := by
    rw [← nm]
    refine exists_congr fun w => and_congr_right fun hw => and_congr_right fun _ => and_congr_left fun _ => ?_
    rw [li_grp hS hw]
    rcases hB3 w hw with y | y
    · rw [y]; decide
    · rw [y]; decide
  by_cases hbg : bg = 0
  · have no : ¬ ∃ w, w < n ∧ f = nI w ∧ A 5 w = -1 ∧ cl_may A n G W k dp bg co q w := fun ⟨w, _, _, _, z⟩ => z.1 hbg
    refine cl_open' hc hS.2.1 hn hbg (fun _ => ?_)
    refine kk 0 σ (hs_of hl0 hm hc.1) (fun d2 Q2 k2 => ?_)
    refine mo_open (σ0 := σ) ⟨hm.mo hc.1, fun _ _ => rfl, rfl⟩ hS.2.2.1 hn d6 d1 d7 (by omega) d9 d2' (li_in hD0) (fun _ => k2 σ h0) (fun σ2 y _ => absurd (conv.mpr y) no)
  refine cl_open hc hS.2.1 hn hk (fun w hw e => (li_deep hS hD0 hbg hw e).1) hq hq2 (fun z => ?_) (fun w hw ew z1 z2 a1 D1 σ1 F1 V1 _ _ _ hc1 hF1 => ?_)
  · refine kk 0 σ (hs_of hl0 hm hc.1) (fun d2 Q2 k2 => ?_)
    refine mo_open (σ0 := σ) ⟨hm.mo hc.1, fun _ _ => rfl, rfl⟩ hS.2.2.1 hn d6 d1 d7 (by omega) d9 d2' (li_in hD0) (fun _ => k2 σ h0) (fun σ2 y _ => absurd (conv.mpr y) z)
  · have hm1 := hm.cf hF1
    have hl1 := hl0.fr hF1
    have hmay := conv.mp ⟨w, hw, ew, z1, z2⟩
    refine kk 1 σ1 (hs_of hl1 hm1 hc1.1) (fun d2 Q2 k2 => ?_)
    rw [← hl1.2.1]
    refine mo_open (σ0 := σ1) ⟨hm1.mo hc1.1, fun _ _ => rfl, rfl⟩ hS.2.2.1 hn d6 d1 d7 (by omega) d9 d2' (li_in hD0) (fun y => absurd hmay y) (fun σ2 _ hW => k2 σ2 ?_)
    obtain ⟨D2, g1, g2, g3, g4⟩ := hm1.up hc1.1 hW
    subst ew
    have hb3 : ¬ B 3 w = 0 := (li_grp hS hw).mp z1
    have hlt : b + k < 2048 := by
      obtain ⟨-, _, _, _, _, _, y, _⟩ := id hmay
      exact y
    obtain ⟨y1, y2⟩ := li_deep hS hD0 hbg hw z2.2.1
    have hco := li_come (v := 0) hn hD0 hbg hlt hw z2.2.1 z2.2.2.2.1 (li_ahead hS hD0 hw hmay z2.2.1)
    have hen := hco.enter hn hbg hw (if_pos rfl) (if_pos rfl) z1 y2 y1
    refine ⟨a1, D2, A, S, I, F1, V1, _, _, k + 1, dp + 1, bg, N, col, ev, cr, co, _, _, n, lw, b, r, hl1.um g3, hc1.um g1 g3 g4, g2, hS, hB3, hen, hT.come hlt hw hn (li_where hD0 hbg z2.2.1) (Or.inr ⟨hb3, rfl⟩), fun y => ?_, hv⟩
    exact absurd (hZ y).2.2.2.2 hbg
set_option maxRecDepth 100000 in
/-- close -/
theorem op_close (h : gi_P c1 c2 x0 m0 sb L xs σ) (kk : ∀ (v : Int32) (σ1 : ri_S), hs_P m0 sb L xs σ1 → (∀ (d2 : Nat) (Q2 : Option Value → ri_S → Prop), (∀ σ2, gi_P c1 c2 x0 m0 sb L xs σ2 → Q2 (some (.int v)) σ2) → ev_W (d2 + 10) mMo_close (0, [some (.ref m0), none, none], []) σ1 Q2) → Q (some (.int v)) σ1) : ev_W (d + 70) mSt_close (0, [some (.ref x0), none], []) σ Q := by
  have h0 := h
  obtain ⟨a, D, A, S, I, F, V, G, W, k, dp, bg, N, col, ev, cr, co, B, J, n, lw, b, r, hl, hc, hm, hS, hB3, hD, hT, hZ, hv⟩ := h
  have hD0 := hD
  obtain ⟨⟨d1, d2', d3, d4⟩, ⟨d5, d6, d7, d8, d9, d10, d11⟩, d13, d12⟩ := hD
  have hl0 := hl
  obtain ⟨rfl, rfl, rfl, hl4⟩ := hl
  have hn := hS.1
  have hup := hS.2.2.2.2.2.2.1
  obtain ⟨q, hq, hq2⟩ := li_q0 (W dp)
  have hend : ∀ w, w < n → ∃ e, e ≤ n ∧ A 6 w = nI e := fun w hw => by
    obtain ⟨e, e1, -, e2, -⟩ := hS.2.2.2.2.2.2.2.2.2.2 w hw
    exact ⟨e, e2, e1⟩
  have hg : ¬ bg = 0 → G dp = -1 ∨ ∃ w, w < n ∧ G dp = nI w := fun z => by
    obtain ⟨P, o1, o2, o3, o4, o5, o6, o7⟩ := d12 z
    match dp, o6 with
    | 0, _ => exact Or.inl o3
    | j + 1, o6 =>
      obtain ⟨q, w, e1, e2, e3, e4, e5, e6, hw, -⟩ := o6 j (by omega)
      exact Or.inr ⟨w, hw, e6⟩
  refine cl_close hc hS.2.1 hn hup hend hg hq hq2 (fun z => ?_) (fun dp' edp z1 z2 D1 σ1 hc1 hF1 => ?_) (fun edp z1 z2 a1 D1 σ1 hc1 hF1 => ?_)
  · refine kk 0 σ (hs_of hl0 hm hc.1) (fun d2 Q2 k2 => ?_)
    have no : ¬ (¬ J 12 = 0 ∧ mo_end B J n b (b + k)) := fun y => z (by
      have hbg : ¬ bg = 0 := by rw [← d10]; exact y.1
      exact ⟨hbg, (li_end hS hD0 hbg hq hq2).mpr y.2⟩)
    exact mo_close (σ0 := σ) ⟨hm.mo hc.1, fun _ _ => rfl, rfl⟩ hS.2.2.1 hn d6 d1 (fun y => d4 (by rw [← d10]; exact y)) d7 (by omega) d9 d2' (li_in hD0) (fun _ => k2 σ h0) (fun σ2 y1 y2 _ _ => absurd ⟨y1, y2⟩ no) (fun σ2 q y1 y2 _ _ _ => absurd ⟨y1, y2⟩ no)
  · have hm1 := hm.cf hF1
    have hl1 := hl0.fr hF1
    have hme := (li_end hS hD0 z1 hq hq2).mp z2
    have hj12 : ¬ J 12 = 0 := by rw [d10]; exact z1
    subst edp
    obtain ⟨P, o1, o2, o3, o4, o5, o6, o7⟩ := d12 z1
    obtain ⟨t, u, t1, t2, t3, -⟩ := o6 dp' (by omega)
    have hj13 : J 13 = nI t := o4.trans t1
    refine kk 1 σ1 (hs_of hl1 hm1 hc1.1) (fun d2 Q2 k2 => ?_)
    refine mo_close (σ0 := σ1) ⟨hm1.mo hc1.1, fun _ _ => rfl, rfl⟩ hS.2.2.1 hn d6 d1 (fun _ => d4 z1) d7 (by omega) d9 d2' (li_in hD0) (fun y => absurd ⟨hj12, hme⟩ y) (fun σ2 y1 y2 y3 _ => absurd (hj13.symm.trans y3) (nI_nm1 (by omega))) (fun σ2 t' y1 y2 y3 y4 hW => k2 σ2 ?_)
    obtain ⟨D2, g1, g2, g3, g4⟩ := hm1.up hc1.1 hW
    have et : t' = t := (nI_eq (by omega) (by omega)).mp (y4.symm.trans hj13)
    subst et
    refine ⟨a, D2, A, S, I, F, V, G, W, k, dp', bg, N, col, ev, cr, co, B, _, n, lw, b, r, hl1.um g3, hc1.um g1 g3 g4, g2, hS, hB3, hD0.inner z1 t3 hj13, hT.inner d2' hj13 t2 t3 rfl, hZ, hv⟩
  · have hm1 := hm.cf hF1
    have hl1 := hl0.fr hF1
    have hme := (li_end hS hD0 z1 hq hq2).mp z2
    have hj12 : ¬ J 12 = 0 := by rw [d10]; exact z1
    subst edp
    obtain ⟨P, o1, o2, o3, o4, o5, o6, o7⟩ := d12 z1
    have hj13 : J 13 = -1 := o4.trans o2
    refine kk 1 σ1 (hs_of hl1 hm1 hc1.1) (fun d2 Q2 k2 => ?_)
    rw [← hl1.2.1]
    refine mo_close (σ0 := σ1) ⟨hm1.mo hc1.1, fun _ _ => rfl, rfl⟩ hS.2.2.1 hn d6 d1 (fun _ => d4 z1) d7 (by omega) d9 d2' (li_in hD0) (fun y => absurd ⟨hj12, hme⟩ y) (fun σ2 y1 y2 y3 hW => k2 σ2 ?_) (fun σ2 t' y1 y2 y3 y4 hW => absurd (y4.symm.trans hj13) (nI_nm1 (by omega)))
    obtain ⟨D2, g1, g2, g3, g4⟩ := hm1.up hc1.1 hW
    refine ⟨a1, D2, A, S, I, F, V, G, W, 0, 0, 0, N, _, ev, _, _, _, _, n, lw, b + k, r + 1, hl1.um g3, hc1.um g1 g3 g4, g2, hS, hB3, hD0.outer z1, hT.outer hj13, fun y => ?_, hv⟩
    exact absurd (hZ y).2.2.2.2 z1
end OPS2
end
section
/-! BOTH TOGETHER: the reads, and assemble; nothing is said here of their answers. -/
section OPS3
variable {c1 c2 x0 m0 sb L : Nat} {xs : Nat → Int32} {σ : ri_S} {d : Nat} {Q : Option Value → ri_S → Prop}
theorem gi_P.s (h : gi_P c1 c2 x0 m0 sb L xs σ) : σ.1 sb = some (.inl (.object "", L, .inl xs)) ∧ ∃ fs, σ.1 x0 = some (.inr (4, fs)) := by
  obtain ⟨a, D, A, S, I, F, V, G, W, k, dp, bg, N, col, ev, cr, co, B, J, n, lw, b, r, hl, hc, -⟩ := h
  obtain ⟨tk, ch, ho⟩ := hc.o
  obtain ⟨rfl, rfl, rfl, hl4⟩ := hl
  exact ⟨hc.1.at hl4, _, ho⟩
/-- the room at the end -/
theorem gi_P.room (h : gi_P c1 c2 x0 m0 sb L xs σ) : 24 * σ.2.1 ≤ c1 + 651264 ∧ σ.2.2 ≤ c2 + 1302528 := by
  obtain ⟨a, D, A, S, I, F, V, G, W, k, dp, bg, N, col, ev, cr, co, B, J, n, lw, b, r, hl, hc, -⟩ := h
  obtain ⟨hG, lf, lv, le, ln, C, tk, ch, ho, hs, hd, ⟨E, he, -⟩, hC, hco, hr⟩ := hc
  have h1 := hd.2.2.2.2.2
  have h2 := he.2.2
  have h3 : co_su N ln ≤ N * 13056 := co_su_le N (fun c hc => by
    obtain ⟨_, _, _, z⟩ := hco.2.2.2.1 c hc
    exact z.2.2.1)
  have h4 : N * 13056 ≤ 48 * 13056 := Nat.mul_le_mul_right _ hco.2.2.2.2
  omega
set_option maxRecDepth 100000 in
/-- level -/
theorem op_level (h : gi_P c1 c2 x0 m0 sb L xs σ) {f wh : Int32} (kk : ∀ (v : Int32) (σ1 : ri_S), hs_P m0 sb L xs σ1 → (∀ (d2 : Nat) (Q2 : Option Value → ri_S → Prop), (∀ (v2 : Int32) σ2, gi_P c1 c2 x0 m0 sb L xs σ2 → Q2 (some (.int v2)) σ2) → ev_W (d2 + 10) mMo_level (0, [some (.ref m0), some (.int f), some (.int wh)], []) σ1 Q2) → Q (some (.int v)) σ1) : ev_W (d + 70) mSt_level (0, [some (.ref x0), some (.int f), some (.int wh)], []) σ Q := by
  have h0 := h
  obtain ⟨a, D, A, S, I, F, V, G, W, k, dp, bg, N, col, ev, cr, co, B, J, n, lw, b, r, hl, hc, hm, hS, hB3, hD, hT, hZ, hv⟩ := h
  have hl0 := hl
  obtain ⟨rfl, rfl, rfl, hl4⟩ := hl
  have hup0 : mo_up (B 0) n := by rw [hS.2.2.2.2.2.2.2.2.1.1]; exact hS.2.2.2.2.2.2.1
  have go : ∀ v : Int32, Q (some (.int v)) σ := fun v => kk v σ (hs_of hl0 hm hc.1) (fun d2 Q2 k2 => mo_level (hm.mo hc.1) hS.2.2.1 hS.1 hup0 (fun v2 => k2 v2 σ h0))
  exact cl_level hc hS.2.1 hS.1 (fun _ => go _) (fun w _ _ => go _)
/-- the reference's records -/
theorem tr_A.rec {A B : Nat → Nat → Int32} {J : Nat → Int32} {n b k r : Nat} (h : tr_A A n B J b k r) (hb : b ≤ 2048) : ∃ Bn : Nat → Nat, (∀ i, i ≤ r → B 7 i = nI (Bn i) ∧ Bn i ≤ 2048) ∧ ∀ i, i < r → Bn i ≤ Bn (i + 1) ∧ tr_R A n B (Bn i) (Bn (i + 1)) := by
  obtain ⟨Bn, h1, h2, h3, -⟩ := h
  exact ⟨Bn, fun i hi => ⟨(h1 i hi).1, Nat.le_trans (h1 i hi).2 hb⟩, h3⟩
set_option maxRecDepth 100000 in
/-- entries -/
theorem op_entries (h : gi_P c1 c2 x0 m0 sb L xs σ) {c : Int32} (kk : ∀ (v : Int32) (σ1 : ri_S), hs_P m0 sb L xs σ1 → (∀ (d2 : Nat) (Q2 : Option Value → ri_S → Prop), (∀ (v2 : Int32) σ2, gi_P c1 c2 x0 m0 sb L xs σ2 → Q2 (some (.int v2)) σ2) → ev_W (d2 + 10) mMo_entries (0, [some (.ref m0), some (.int c)], []) σ1 Q2) → Q (some (.int v)) σ1) : ev_W (d + 70) mSt_entries (0, [some (.ref x0), some (.int c)], []) σ Q := by
  have h0 := h
  obtain ⟨a, D, A, S, I, F, V, G, W, k, dp, bg, N, col, ev, cr, co, B, J, n, lw, b, r, hl, hj⟩ := h
  have hj0 := hj
  obtain ⟨hc, hm, hS, hB3, hD, hT, hZ, hv⟩ := hj
  have hl0 := hl
  obtain ⟨rfl, rfl, rfl, hl4⟩ := hl
  obtain ⟨e0, e1, e2⟩ := hS.2.2.2.2.2.2.2.2.1
  have hup0 : mo_up (B 0) n := by rw [e0]; exact hS.2.2.2.2.2.2.1
  have hde0 : mo_de (B 0) (B 2) n := by rw [e0, e2]; exact hS.2.2.2.2.2.2.2.1
  obtain ⟨Bn, t1, t2⟩ := hT.rec (by have := hD.1.2.1; omega)
  refine cl_entries hc ?_
  refine kk _ σ (hs_of hl0 hm hc.1) (fun d2 Q2 k2 => ?_)
  refine mo_entries (σ0 := σ) (B := Bn) ⟨hm.mo hc.1, fun _ _ => rfl, rfl⟩ hS.2.2.1 hS.1 hup0 hde0 hD.2.1.2.1 hD.1.1 t1 (tr_ents hD.1.1 (fun i hi => (t1 i hi).2)) (fun _ => k2 _ σ h0) (fun σ2 f kq w at' J' _ _ _ _ hJ hJ23 hW => k2 _ σ2 ?_)
  obtain ⟨D2, g1, g2, g3, g4⟩ := hm.up hc.1 hW
  refine ⟨a, D2, A, S, I, F, V, G, W, k, dp, bg, N, col, ev, cr, co, _, J', n, lw, b, r, hl0.um g3, hj0.same (hc.um g1 g3 g4) g2 (fun i hi => ?_) hJ (by rw [hJ23]; exact hv)⟩
  exact (va_up_n (by omega)).trans (va_up_n (by omega))
set_option maxRecDepth 100000 in
/-- entry -/
theorem op_entry (h : gi_P c1 c2 x0 m0 sb L xs σ) {c e wh : Int32} (kk : ∀ (v : Int32) (σ1 : ri_S), hs_P m0 sb L xs σ1 → (∀ (d2 : Nat) (Q2 : Option Value → ri_S → Prop), (∀ (v2 : Int32) σ2, gi_P c1 c2 x0 m0 sb L xs σ2 → Q2 (some (.int v2)) σ2) → ev_W (d2 + 10) mMo_entry (0, [some (.ref m0), some (.int c), some (.int e), some (.int wh)], []) σ1 Q2) → Q (some (.int v)) σ1) : ev_W (d + 70) mSt_entry (0, [some (.ref x0), some (.int c), some (.int e), some (.int wh)], []) σ Q := by
  have h0 := h
  obtain ⟨a, D, A, S, I, F, V, G, W, k, dp, bg, N, col, ev, cr, co, B, J, n, lw, b, r, hl, hj⟩ := h
  have hj0 := hj
  obtain ⟨hc, hm, hS, hB3, hD, hT, hZ, hv⟩ := hj
  have hl0 := hl
  obtain ⟨rfl, rfl, rfl, hl4⟩ := hl
  obtain ⟨e0, e1, e2⟩ := hS.2.2.2.2.2.2.2.2.1
  have hup0 : mo_up (B 0) n := by rw [e0]; exact hS.2.2.2.2.2.2.1
  have hde0 : mo_de (B 0) (B 2) n := by rw [e0, e2]; exact hS.2.2.2.2.2.2.2.1
  obtain ⟨Bn, t1, t2⟩ := hT.rec (by have := hD.1.2.1; omega)
  refine cl_entry hc ?_
  refine kk _ σ (hs_of hl0 hm hc.1) (fun d2 Q2 k2 => ?_)
  refine mo_entry (σ0 := σ) (B := Bn) ⟨hm.mo hc.1, fun _ _ => rfl, rfl⟩ hS.2.2.1 hS.1 hup0 hde0 hD.2.1.2.1 hD.1.1 t1 (tr_ents hD.1.1 (fun i hi => (t1 i hi).2)) (fun _ => k2 _ σ h0) (fun σ2 f kq w at' J' v2 _ _ _ _ hJ hJ23 hW _ => k2 _ σ2 ?_)
  obtain ⟨D2, g1, g2, g3, g4⟩ := hm.up hc.1 hW
  refine ⟨a, D2, A, S, I, F, V, G, W, k, dp, bg, N, col, ev, cr, co, _, J', n, lw, b, r, hl0.um g3, hj0.same (hc.um g1 g3 g4) g2 (fun i hi => ?_) hJ (by rw [hJ23]; exact hv)⟩
  exact (va_up_n (by omega)).trans (va_up_n (by omega))
set_option maxRecDepth 100000 in
/-- event -/
theorem op_event (h : gi_P c1 c2 x0 m0 sb L xs σ) {e wh : Int32} (kk : ∀ (v : Int32) (σ1 : ri_S), hs_P m0 sb L xs σ1 → (∀ (d2 : Nat) (Q2 : Option Value → ri_S → Prop), (∀ (v2 : Int32) σ2, gi_P c1 c2 x0 m0 sb L xs σ2 → Q2 (some (.int v2)) σ2) → ev_W (d2 + 10) mMo_event (0, [some (.ref m0), some (.int e), some (.int wh)], []) σ1 Q2) → Q (some (.int v)) σ1) : ev_W (d + 70) mSt_event (0, [some (.ref x0), some (.int e), some (.int wh)], []) σ Q := by
  have h0 := h
  obtain ⟨a, D, A, S, I, F, V, G, W, k, dp, bg, N, col, ev, cr, co, B, J, n, lw, b, r, hl, hc, hm, hS, hB3, hD, hT, hZ, v0, hv, hv2⟩ := h
  have hl0 := hl
  obtain ⟨rfl, rfl, rfl, hl4⟩ := hl
  refine cl_event hc ?_
  refine kk _ σ (hs_of hl0 hm hc.1) (fun d2 Q2 k2 => ?_)
  exact mo_event (hm.mo hc.1) hv hv2 (fun x _ => k2 x σ h0)
set_option maxRecDepth 100000 in
/-- assemble -/
theorem op_assemble (h : gi_P c1 c2 x0 m0 sb L xs σ) {rc lo hi : Int32} (kk : ∀ (v : Int32) (σ1 : ri_S), hs_P m0 sb L xs σ1 → (∀ (d2 : Nat) (Q2 : Option Value → ri_S → Prop), (∀ (v2 : Int32) σ2, gi_P c1 c2 x0 m0 sb L xs σ2 → Q2 (some (.int v2)) σ2) → ev_W (d2 + 10) mMo_assemble (0, [some (.ref m0), some (.int rc), some (.int lo), some (.int hi), none, none], []) σ1 Q2) → Q (some (.int v)) σ1) : ev_W (d + 70) mSt_assemble (0, [some (.ref x0), some (.int rc), some (.int lo), some (.int hi)], []) σ Q := by
  obtain ⟨a, D, A, S, I, F, V, G, W, k, dp, bg, N, col, ev, cr, co, B, J, n, lw, b, r, hl, hj⟩ := h
  have hj0 := hj
  obtain ⟨hc, hm, hS, hB3, hD, hT, hZ, hv⟩ := hj
  have hl0 := hl
  obtain ⟨rfl, rfl, rfl, hl4⟩ := hl
  obtain ⟨e0, e1, e2⟩ := hS.2.2.2.2.2.2.2.2.1
  have hup := hS.2.2.2.2.2.2.1
  have hup0 : mo_up (B 0) n := by rw [e0]; exact hup
  obtain ⟨Bn, t1, t2⟩ := hT.rec (by have := hD.1.2.1; omega)
  have hend : ∀ w, w < n → ∃ e, e ≤ n ∧ A 6 w = nI e := fun w hw => by
    obtain ⟨e, e1, -, e2, -⟩ := hS.2.2.2.2.2.2.2.2.2.2 w hw
    exact ⟨e, e2, e1⟩
  have mid : ∀ (v : Int32) (a1 : Nat → Nat) (D1 : Nat → Option ri_E) (σ1 : ri_S) (ev1 : List (Int32 × Int32)), cl_P c1 c2 a1 D1 σ1 A S I F V G W k dp bg N col ev1 cr co → cl_F a D a1 D1 → Q (some (.int v)) σ1 := by
    intro v a1 D1 σ1 ev1 hc1 hF1
    have hm1 := hm.cf hF1
    have hl1 := hl0.fr hF1
    refine kk v σ1 (hs_of hl1 hm1 hc1.1) (fun d2 Q2 k2 => ?_)
    rw [← hl1.2.1]
    refine mo_assemble (σ0 := σ1) (B := Bn) (M := 2048) (m := 2048) ⟨hm1.mo hc1.1, fun _ _ => rfl, rfl⟩ hS.2.2.1 hS.1 hup0 hD.2.1.2.1 hD.1.1 t1 (by decide) (fun i hi => (t2 i hi).1) (fun i w hi hw => ?_) (fun _ σ2 hW => k2 _ σ2 ?_) (fun i w x y l σ2 _ _ _ _ _ hlen hW => k2 _ σ2 ?_)
    · rw [e0] at hw
      exact tr_tell (t2 i hi).2 (t1 (i + 1) (by omega)).2 hS.1 hup hw (t2 i hi).1
    · obtain ⟨D2, g1, g2, g3, g4⟩ := hm1.up hc1.1 hW
      exact ⟨a1, D2, A, S, I, F, V, G, W, k, dp, bg, N, col, ev1, cr, co, B, _, n, lw, b, r, hl1.um g3, (show gj_P c1 c2 a1 D1 σ1 A S I F V G W k dp bg N col ev1 cr co B J n lw b r from ⟨hc1, hm1, hS, hB3, hD, hT, hZ, hv⟩).same (hc1.um g1 g3 g4) g2 (fun i hi => rfl) (fun j hj => va_up_n (by omega)) ⟨0, rfl, by decide⟩⟩
    · obtain ⟨D2, g1, g2, g3, g4⟩ := hm1.up hc1.1 hW
      exact ⟨a1, D2, A, S, I, F, V, G, W, k, dp, bg, N, col, ev1, cr, co, _, _, n, lw, b, r, hl1.um g3, (show gj_P c1 c2 a1 D1 σ1 A S I F V G W k dp bg N col ev1 cr co B J n lw b r from ⟨hc1, hm1, hS, hB3, hD, hT, hZ, hv⟩).same (hc1.um g1 g3 g4) g2 (fun i hi => (va_up_n (by omega)).trans ((va_up_n (by omega)).trans (va_up_n (by omega)))) (fun j hj => va_up_n (by omega)) ⟨_, rfl, hlen⟩⟩
  refine cl_assemble hc hS.2.1 hS.1 hend (fun _ D1 σ1 hc1 hF1 => mid _ a D1 σ1 [] hc1 hF1) (fun _ a1 D1 σ1 C hc1 hF1 => mid _ a1 D1 σ1 _ hc1 hF1)
end OPS3
end
section
/-! THE LAW'S RUN (written by gen79.py). -/
section LAW
variable {c1 c2 x0 m0 sb L : Nat} {xs : Nat → Int32} {σ : ri_S} {Q : Option Value → ri_S → Prop} {i : Nat}
theorem la_ald {d : Nat} {M : ri_M} {F : ri_F} {pc np tg q : Nat} {kv j : Int32} {l : List (Option Value)} {r : List Value} (hs : σ.1 sb = some (.inl (.object "", L, .inl xs))) (hgo : ri_go 99 M F = (pc, l, .int j :: .ref sb :: r)) (hf : ri_find pc M.2.2.2.2.2 = some (.iaload, np, tg, kv)) (hj : j = nI q) (hq : q < L) (hL : L ≤ 2048) (kk : ev_W d M (np, l, .int (xs q) :: r) σ Q) : ev_W d M F σ Q := by
  subst hj
  refine g_iald hgo hf hs rfl (nI_in hq (by omega)) ?_
  rw [nI_clamp (by omega)]
  exact kk
set_option maxRecDepth 100000 in
theorem la_field (hL : L ≤ 2048) (hi : i + 4 ≤ L) (h : gi_P c1 c2 x0 m0 sb L xs σ) (kk : ∀ σ' : ri_S, gi_P c1 c2 x0 m0 sb L xs σ' → ev_W 1000 mLa_law (455, [some (.ref sb), some (.ref x0), some (.ref m0), some (.int (nI i))], []) σ' Q) : ev_W 1000 mLa_law (100, [some (.ref sb), some (.ref x0), some (.ref m0), some (.int (nI i))], []) σ Q := by
  obtain ⟨hs, fx, hx⟩ := h.s
  by_cases hz : xs (i + 3) = 0
  · refine la_ald hs rfl rfl (nI_add i 1) (show i + 1 < L by omega) hL ?_
    refine la_ald hs rfl rfl (nI_add i 2) (show i + 2 < L by omega) hL ?_
    refine la_ald hs rfl rfl (nI_add i 3) (show i + 3 < L by omega) hL ?_
    refine g_br rfl rfl rfl rfl rfl rfl (fun _ => ?_) (fun z => absurd hz z)
    refine g_clV rfl rfl rfl rfl hx rfl rfl rfl ?_
    refine op_field h (Or.inl rfl) (fun v σ1 hs1 k2 => ?_)
    obtain ⟨hs2, fm, hm⟩ := hs1
    refine la_ald hs2 rfl rfl (nI_add i 1) (show i + 1 < L by omega) hL ?_
    refine la_ald hs2 rfl rfl (nI_add i 2) (show i + 2 < L by omega) hL ?_
    refine la_ald hs2 rfl rfl (nI_add i 3) (show i + 3 < L by omega) hL ?_
    refine g_br rfl rfl rfl rfl rfl rfl (fun _ => ?_) (fun z => absurd hz z)
    refine g_clV rfl rfl rfl rfl hm rfl rfl rfl ?_
    refine k2 _ _ (fun σ2 h2 => ?_)
    exact ev_go 2 rfl (kk σ2 h2)
  · refine la_ald hs rfl rfl (nI_add i 1) (show i + 1 < L by omega) hL ?_
    refine la_ald hs rfl rfl (nI_add i 2) (show i + 2 < L by omega) hL ?_
    refine la_ald hs rfl rfl (nI_add i 3) (show i + 3 < L by omega) hL ?_
    refine g_br rfl rfl rfl rfl rfl rfl (fun z => absurd z hz) (fun _ => ?_)
    refine g_clV rfl rfl rfl rfl hx rfl rfl rfl ?_
    refine op_field h (Or.inr rfl) (fun v σ1 hs1 k2 => ?_)
    obtain ⟨hs2, fm, hm⟩ := hs1
    refine la_ald hs2 rfl rfl (nI_add i 1) (show i + 1 < L by omega) hL ?_
    refine la_ald hs2 rfl rfl (nI_add i 2) (show i + 2 < L by omega) hL ?_
    refine la_ald hs2 rfl rfl (nI_add i 3) (show i + 3 < L by omega) hL ?_
    refine g_br rfl rfl rfl rfl rfl rfl (fun z => absurd z hz) (fun _ => ?_)
    refine g_clV rfl rfl rfl rfl hm rfl rfl rfl ?_
    refine k2 _ _ (fun σ2 h2 => ?_)
    exact ev_go 2 rfl (kk σ2 h2)
set_option maxRecDepth 100000 in
theorem la_ready (hL : L ≤ 2048) (hi : i + 4 ≤ L) (h : gi_P c1 c2 x0 m0 sb L xs σ) (kk : ∀ σ' : ri_S, gi_P c1 c2 x0 m0 sb L xs σ' → ev_W 1000 mLa_law (455, [some (.ref sb), some (.ref x0), some (.ref m0), some (.int (nI i))], []) σ' Q) : ev_W 1000 mLa_law (159, [some (.ref sb), some (.ref x0), some (.ref m0), some (.int (nI i))], []) σ Q := by
  obtain ⟨hs, fx, hx⟩ := h.s
  refine g_clV rfl rfl rfl rfl hx rfl rfl rfl ?_
  refine op_ready h (fun v σ1 hs1 k2 => ?_)
  obtain ⟨hs2, fm, hm⟩ := hs1
  refine g_clV rfl rfl rfl rfl hm rfl rfl rfl ?_
  refine k2 _ _ (fun σ2 h2 => ?_)
  exact ev_go 2 rfl (kk σ2 h2)
set_option maxRecDepth 100000 in
theorem la_begin (hL : L ≤ 2048) (hi : i + 4 ≤ L) (h : gi_P c1 c2 x0 m0 sb L xs σ) (kk : ∀ σ' : ri_S, gi_P c1 c2 x0 m0 sb L xs σ' → ev_W 1000 mLa_law (455, [some (.ref sb), some (.ref x0), some (.ref m0), some (.int (nI i))], []) σ' Q) : ev_W 1000 mLa_law (172, [some (.ref sb), some (.ref x0), some (.ref m0), some (.int (nI i))], []) σ Q := by
  obtain ⟨hs, fx, hx⟩ := h.s
  refine g_clV rfl rfl rfl rfl hx rfl rfl rfl ?_
  refine op_begin h (fun v σ1 hs1 k2 => ?_)
  obtain ⟨hs2, fm, hm⟩ := hs1
  refine g_clV rfl rfl rfl rfl hm rfl rfl rfl ?_
  refine k2 _ _ (fun σ2 h2 => ?_)
  exact ev_go 2 rfl (kk σ2 h2)
set_option maxRecDepth 100000 in
theorem la_open (hL : L ≤ 2048) (hi : i + 4 ≤ L) (h : gi_P c1 c2 x0 m0 sb L xs σ) (kk : ∀ σ' : ri_S, gi_P c1 c2 x0 m0 sb L xs σ' → ev_W 1000 mLa_law (455, [some (.ref sb), some (.ref x0), some (.ref m0), some (.int (nI i))], []) σ' Q) : ev_W 1000 mLa_law (185, [some (.ref sb), some (.ref x0), some (.ref m0), some (.int (nI i))], []) σ Q := by
  obtain ⟨hs, fx, hx⟩ := h.s
  refine la_ald hs rfl rfl (nI_add i 1) (show i + 1 < L by omega) hL ?_
  refine g_clV rfl rfl rfl rfl hx rfl rfl rfl ?_
  refine op_open h (fun v σ1 hs1 k2 => ?_)
  obtain ⟨hs2, fm, hm⟩ := hs1
  refine la_ald hs2 rfl rfl (nI_add i 1) (show i + 1 < L by omega) hL ?_
  refine g_clV rfl rfl rfl rfl hm rfl rfl rfl ?_
  refine k2 _ _ (fun σ2 h2 => ?_)
  exact ev_go 2 rfl (kk σ2 h2)
set_option maxRecDepth 100000 in
theorem la_leaf (hL : L ≤ 2048) (hi : i + 4 ≤ L) (h : gi_P c1 c2 x0 m0 sb L xs σ) (kk : ∀ σ' : ri_S, gi_P c1 c2 x0 m0 sb L xs σ' → ev_W 1000 mLa_law (455, [some (.ref sb), some (.ref x0), some (.ref m0), some (.int (nI i))], []) σ' Q) : ev_W 1000 mLa_law (208, [some (.ref sb), some (.ref x0), some (.ref m0), some (.int (nI i))], []) σ Q := by
  obtain ⟨hs, fx, hx⟩ := h.s
  refine la_ald hs rfl rfl (nI_add i 1) (show i + 1 < L by omega) hL ?_
  refine la_ald hs rfl rfl (nI_add i 2) (show i + 2 < L by omega) hL ?_
  refine g_clV rfl rfl rfl rfl hx rfl rfl rfl ?_
  refine op_leaf h (fun v σ1 hs1 k2 => ?_)
  obtain ⟨hs2, fm, hm⟩ := hs1
  refine la_ald hs2 rfl rfl (nI_add i 1) (show i + 1 < L by omega) hL ?_
  refine la_ald hs2 rfl rfl (nI_add i 2) (show i + 2 < L by omega) hL ?_
  refine g_clV rfl rfl rfl rfl hm rfl rfl rfl ?_
  refine k2 _ _ (fun σ2 h2 => ?_)
  exact ev_go 2 rfl (kk σ2 h2)
set_option maxRecDepth 100000 in
theorem la_close (hL : L ≤ 2048) (hi : i + 4 ≤ L) (h : gi_P c1 c2 x0 m0 sb L xs σ) (kk : ∀ σ' : ri_S, gi_P c1 c2 x0 m0 sb L xs σ' → ev_W 1000 mLa_law (455, [some (.ref sb), some (.ref x0), some (.ref m0), some (.int (nI i))], []) σ' Q) : ev_W 1000 mLa_law (241, [some (.ref sb), some (.ref x0), some (.ref m0), some (.int (nI i))], []) σ Q := by
  obtain ⟨hs, fx, hx⟩ := h.s
  refine g_clV rfl rfl rfl rfl hx rfl rfl rfl ?_
  refine op_close h (fun v σ1 hs1 k2 => ?_)
  obtain ⟨hs2, fm, hm⟩ := hs1
  refine g_clV rfl rfl rfl rfl hm rfl rfl rfl ?_
  refine k2 _ _ (fun σ2 h2 => ?_)
  exact g_br rfl rfl rfl rfl rfl rfl (fun _ => kk σ2 h2) (fun z => absurd rfl z)
set_option maxRecDepth 100000 in
theorem la_drop (hL : L ≤ 2048) (hi : i + 4 ≤ L) (h : gi_P c1 c2 x0 m0 sb L xs σ) (kk : ∀ σ' : ri_S, gi_P c1 c2 x0 m0 sb L xs σ' → ev_W 1000 mLa_law (455, [some (.ref sb), some (.ref x0), some (.ref m0), some (.int (nI i))], []) σ' Q) : ev_W 1000 mLa_law (254, [some (.ref sb), some (.ref x0), some (.ref m0), some (.int (nI i))], []) σ Q := by
  obtain ⟨hs, fx, hx⟩ := h.s
  refine g_clV rfl rfl rfl rfl hx rfl rfl rfl ?_
  refine op_drop h (fun v σ1 hs1 k2 => ?_)
  obtain ⟨hs2, fm, hm⟩ := hs1
  refine g_clV rfl rfl rfl rfl hm rfl rfl rfl ?_
  refine k2 _ _ (fun σ2 h2 => ?_)
  exact ev_go 2 rfl (kk σ2 h2)
set_option maxRecDepth 100000 in
theorem la_records (hL : L ≤ 2048) (hi : i + 4 ≤ L) (h : gi_P c1 c2 x0 m0 sb L xs σ) (kk : ∀ σ' : ri_S, gi_P c1 c2 x0 m0 sb L xs σ' → ev_W 1000 mLa_law (455, [some (.ref sb), some (.ref x0), some (.ref m0), some (.int (nI i))], []) σ' Q) : ev_W 1000 mLa_law (267, [some (.ref sb), some (.ref x0), some (.ref m0), some (.int (nI i))], []) σ Q := by
  obtain ⟨hs, fx, hx⟩ := h.s
  refine g_clV rfl rfl rfl rfl hx rfl rfl rfl ?_
  refine op_records h (fun v σ1 hs1 k2 => ?_)
  obtain ⟨hs2, fm, hm⟩ := hs1
  refine g_clV rfl rfl rfl rfl hm rfl rfl rfl ?_
  refine k2 _ _ (fun σ2 h2 => ?_)
  exact ev_go 2 rfl (kk σ2 h2)
set_option maxRecDepth 100000 in
theorem la_level (hL : L ≤ 2048) (hi : i + 4 ≤ L) (h : gi_P c1 c2 x0 m0 sb L xs σ) (kk : ∀ σ' : ri_S, gi_P c1 c2 x0 m0 sb L xs σ' → ev_W 1000 mLa_law (455, [some (.ref sb), some (.ref x0), some (.ref m0), some (.int (nI i))], []) σ' Q) : ev_W 1000 mLa_law (280, [some (.ref sb), some (.ref x0), some (.ref m0), some (.int (nI i))], []) σ Q := by
  obtain ⟨hs, fx, hx⟩ := h.s
  refine la_ald hs rfl rfl (nI_add i 1) (show i + 1 < L by omega) hL ?_
  refine la_ald hs rfl rfl (nI_add i 2) (show i + 2 < L by omega) hL ?_
  refine g_clV rfl rfl rfl rfl hx rfl rfl rfl ?_
  refine op_level h (fun v σ1 hs1 k2 => ?_)
  obtain ⟨hs2, fm, hm⟩ := hs1
  refine la_ald hs2 rfl rfl (nI_add i 1) (show i + 1 < L by omega) hL ?_
  refine la_ald hs2 rfl rfl (nI_add i 2) (show i + 2 < L by omega) hL ?_
  refine g_clV rfl rfl rfl rfl hm rfl rfl rfl ?_
  refine k2 _ _ (fun v2 σ2 h2 => ?_)
  exact ev_go 2 rfl (kk σ2 h2)
set_option maxRecDepth 100000 in
theorem la_entries (hL : L ≤ 2048) (hi : i + 4 ≤ L) (h : gi_P c1 c2 x0 m0 sb L xs σ) (kk : ∀ σ' : ri_S, gi_P c1 c2 x0 m0 sb L xs σ' → ev_W 1000 mLa_law (455, [some (.ref sb), some (.ref x0), some (.ref m0), some (.int (nI i))], []) σ' Q) : ev_W 1000 mLa_law (313, [some (.ref sb), some (.ref x0), some (.ref m0), some (.int (nI i))], []) σ Q := by
  obtain ⟨hs, fx, hx⟩ := h.s
  refine la_ald hs rfl rfl (nI_add i 1) (show i + 1 < L by omega) hL ?_
  refine g_clV rfl rfl rfl rfl hx rfl rfl rfl ?_
  refine op_entries h (fun v σ1 hs1 k2 => ?_)
  obtain ⟨hs2, fm, hm⟩ := hs1
  refine la_ald hs2 rfl rfl (nI_add i 1) (show i + 1 < L by omega) hL ?_
  refine g_clV rfl rfl rfl rfl hm rfl rfl rfl ?_
  refine k2 _ _ (fun v2 σ2 h2 => ?_)
  exact ev_go 2 rfl (kk σ2 h2)
set_option maxRecDepth 100000 in
theorem la_entry (hL : L ≤ 2048) (hi : i + 4 ≤ L) (h : gi_P c1 c2 x0 m0 sb L xs σ) (kk : ∀ σ' : ri_S, gi_P c1 c2 x0 m0 sb L xs σ' → ev_W 1000 mLa_law (455, [some (.ref sb), some (.ref x0), some (.ref m0), some (.int (nI i))], []) σ' Q) : ev_W 1000 mLa_law (336, [some (.ref sb), some (.ref x0), some (.ref m0), some (.int (nI i))], []) σ Q := by
  obtain ⟨hs, fx, hx⟩ := h.s
  refine la_ald hs rfl rfl (nI_add i 1) (show i + 1 < L by omega) hL ?_
  refine la_ald hs rfl rfl (nI_add i 2) (show i + 2 < L by omega) hL ?_
  refine la_ald hs rfl rfl (nI_add i 3) (show i + 3 < L by omega) hL ?_
  refine g_clV rfl rfl rfl rfl hx rfl rfl rfl ?_
  refine op_entry h (fun v σ1 hs1 k2 => ?_)
  obtain ⟨hs2, fm, hm⟩ := hs1
  refine la_ald hs2 rfl rfl (nI_add i 1) (show i + 1 < L by omega) hL ?_
  refine la_ald hs2 rfl rfl (nI_add i 2) (show i + 2 < L by omega) hL ?_
  refine la_ald hs2 rfl rfl (nI_add i 3) (show i + 3 < L by omega) hL ?_
  refine g_clV rfl rfl rfl rfl hm rfl rfl rfl ?_
  refine k2 _ _ (fun v2 σ2 h2 => ?_)
  exact ev_go 2 rfl (kk σ2 h2)
set_option maxRecDepth 100000 in
theorem la_assemble (hL : L ≤ 2048) (hi : i + 4 ≤ L) (h : gi_P c1 c2 x0 m0 sb L xs σ) (kk : ∀ σ' : ri_S, gi_P c1 c2 x0 m0 sb L xs σ' → ev_W 1000 mLa_law (455, [some (.ref sb), some (.ref x0), some (.ref m0), some (.int (nI i))], []) σ' Q) : ev_W 1000 mLa_law (379, [some (.ref sb), some (.ref x0), some (.ref m0), some (.int (nI i))], []) σ Q := by
  obtain ⟨hs, fx, hx⟩ := h.s
  refine la_ald hs rfl rfl (nI_add i 1) (show i + 1 < L by omega) hL ?_
  refine la_ald hs rfl rfl (nI_add i 2) (show i + 2 < L by omega) hL ?_
  refine la_ald hs rfl rfl (nI_add i 3) (show i + 3 < L by omega) hL ?_
  refine g_clV rfl rfl rfl rfl hx rfl rfl rfl ?_
  refine op_assemble h (fun v σ1 hs1 k2 => ?_)
  obtain ⟨hs2, fm, hm⟩ := hs1
  refine la_ald hs2 rfl rfl (nI_add i 1) (show i + 1 < L by omega) hL ?_
  refine la_ald hs2 rfl rfl (nI_add i 2) (show i + 2 < L by omega) hL ?_
  refine la_ald hs2 rfl rfl (nI_add i 3) (show i + 3 < L by omega) hL ?_
  refine g_clV rfl rfl rfl rfl hm rfl rfl rfl ?_
  refine k2 _ _ (fun v2 σ2 h2 => ?_)
  exact ev_go 2 rfl (kk σ2 h2)
set_option maxRecDepth 100000 in
theorem la_event (hL : L ≤ 2048) (hi : i + 4 ≤ L) (h : gi_P c1 c2 x0 m0 sb L xs σ) (kk : ∀ σ' : ri_S, gi_P c1 c2 x0 m0 sb L xs σ' → ev_W 1000 mLa_law (455, [some (.ref sb), some (.ref x0), some (.ref m0), some (.int (nI i))], []) σ' Q) : ev_W 1000 mLa_law (422, [some (.ref sb), some (.ref x0), some (.ref m0), some (.int (nI i))], []) σ Q := by
  obtain ⟨hs, fx, hx⟩ := h.s
  refine la_ald hs rfl rfl (nI_add i 1) (show i + 1 < L by omega) hL ?_
  refine la_ald hs rfl rfl (nI_add i 2) (show i + 2 < L by omega) hL ?_
  refine g_clV rfl rfl rfl rfl hx rfl rfl rfl ?_
  refine op_event h (fun v σ1 hs1 k2 => ?_)
  obtain ⟨hs2, fm, hm⟩ := hs1
  refine la_ald hs2 rfl rfl (nI_add i 1) (show i + 1 < L by omega) hL ?_
  refine la_ald hs2 rfl rfl (nI_add i 2) (show i + 2 < L by omega) hL ?_
  refine g_clV rfl rfl rfl rfl hm rfl rfl rfl ?_
  refine k2 _ _ (fun v2 σ2 h2 => ?_)
  exact ev_go 2 rfl (kk σ2 h2)
theorem la_sub {m : Nat} : nI (m + 4) - 4 = nI m := by
  rw [show nI (m + 4) = nI m + 4 from (nI_add m 4).symm]
  exact Int32.add_sub_cancel _ _
theorem la_out (hL : L ≤ 2048) (h : L < i + 4) (hi : i ≤ 2052) : nI L - 4 < nI i := by
  rcases Nat.lt_or_ge L 4 with z | z
  · refine Int32.lt_of_lt_of_le (b := 0) ?_ (nI_pos' (by omega))
    match L, z with
    | 0, _ => decide
    | 1, _ => decide
    | 2, _ => decide
    | 3, _ => decide
  · obtain ⟨m, rfl⟩ : ∃ m, L = m + 4 := ⟨L - 4, by omega⟩
    rw [la_sub]
    exact nI_lt (by omega) (by omega)
theorem la_in (hL : L ≤ 2048) (h : i + 4 ≤ L) : ¬ nI L - 4 < nI i := by
  obtain ⟨m, rfl⟩ : ∃ m, L = m + 4 := ⟨L - 4, by omega⟩
  rw [la_sub]
  exact nI_nlt (by omega) (by omega)
set_option maxRecDepth 100000 in
theorem la_loop (hL : L ≤ 2048) (kend : ∀ σ' : ri_S, gi_P c1 c2 x0 m0 sb L xs σ' → Q (some (.int 1)) σ') : ∀ (t i : Nat) (σ : ri_S), L ≤ i + t → i ≤ 2052 → gi_P c1 c2 x0 m0 sb L xs σ → ev_W 1000 mLa_law (18, [some (.ref sb), some (.ref x0), some (.ref m0), some (.int (nI i))], []) σ Q := by
  intro t
  induction t with
  | zero =>
    intro i σ hi hi2 h
    refine g_alen rfl rfl h.s.1 rfl ?_
    refine g_br rfl rfl rfl rfl rfl rfl (fun _ => g_rt rfl rfl rfl (kend σ h)) (fun z => absurd ?_ z)
    exact la_out hL (by omega) hi2
  | succ t ih =>
    intro i σ hi hi2 h
    refine g_alen rfl rfl h.s.1 rfl ?_
    rcases Nat.lt_or_ge L (i + 4) with q | q
    · exact g_br rfl rfl rfl rfl rfl rfl (fun _ => g_rt rfl rfl rfl (kend σ h)) (fun z => absurd (la_out hL q hi2) z)
    refine g_br rfl rfl rfl rfl rfl rfl (fun z => absurd z (la_in hL q)) (fun _ => ?_)
    refine la_ald h.s.1 rfl rfl rfl (show i < L by omega) hL ?_
    have nx : ∀ σ' : ri_S, gi_P c1 c2 x0 m0 sb L xs σ' → ev_W 1000 mLa_law (455, [some (.ref sb), some (.ref x0), some (.ref m0), some (.int (nI i))], []) σ' Q := by
      intro σ' h'
      refine ev_go 2 rfl ?_
      show ev_W 1000 mLa_law (18, [some (.ref sb), some (.ref x0), some (.ref m0), some (.int (nI i + 4))], []) σ' Q
      rw [show nI i + 4 = nI (i + 4) from nI_add i 4]
      exact ih (i + 4) σ' (by omega) (by omega) h'
    refine ev_go 2 rfl ?_
    show ev_W 1000 mLa_law (32, [some (.ref sb), some (.ref x0), some (.ref m0), some (.int (nI i))], [.int (xs i &&& 15)]) σ Q
    obtain ⟨c, hc, ec⟩ := pk_andE (xs i) (m := 15) 4 (by decide)
    rw [ec]
    have hc2 : c < 16 := hc
    clear ec hc
    match c, hc2 with
    | 0, _ => exact g_px rfl rfl rfl rfl rfl rfl (la_field hL q h nx)
    | 1, _ => exact g_px rfl rfl rfl rfl rfl rfl (la_ready hL q h nx)
    | 2, _ => exact g_px rfl rfl rfl rfl rfl rfl (la_begin hL q h nx)
    | 3, _ => exact g_px rfl rfl rfl rfl rfl rfl (la_open hL q h nx)
    | 4, _ => exact g_px rfl rfl rfl rfl rfl rfl (la_leaf hL q h nx)
    | 5, _ => exact g_px rfl rfl rfl rfl rfl rfl (la_close hL q h nx)
    | 6, _ => exact g_px rfl rfl rfl rfl rfl rfl (la_drop hL q h nx)
    | 7, _ => exact g_px rfl rfl rfl rfl rfl rfl (la_records hL q h nx)
    | 8, _ => exact g_px rfl rfl rfl rfl rfl rfl (la_level hL q h nx)
    | 9, _ => exact g_px rfl rfl rfl rfl rfl rfl (la_entries hL q h nx)
    | 10, _ => exact g_px rfl rfl rfl rfl rfl rfl (la_entry hL q h nx)
    | 11, _ => exact g_px rfl rfl rfl rfl rfl rfl (la_assemble hL q h nx)
    | 12, _ => exact g_px rfl rfl rfl rfl rfl rfl (la_event hL q h nx)
    | 13, _ => exact g_px rfl rfl rfl rfl rfl rfl (nx σ h)
    | 14, _ => exact g_px rfl rfl rfl rfl rfl rfl (nx σ h)
    | 15, _ => exact g_px rfl rfl rfl rfl rfl rfl (nx σ h)
    | c + 16, hq => exact absurd hq (by omega)
end LAW
end
section
/-! THE LAW'S RUN ON THE SMALL MACHINE, from its start -/
theorem la_first (a3 : Nat → Nat) (D3 : Nat → Option ri_E) (σ3 : ri_S) {c1 c2 x0 m0 sb L : Nat} {xs : Nat → Int32} (hl : gl_P x0 m0 sb L xs a3 D3) (hc : cl_P c1 c2 a3 D3 σ3 (fun _ _ => 0) (fun _ => 0) (fun _ => 0) (fun _ => 0) (fun _ => 0) (fun _ => 0) (fun _ => 0) 0 0 0 0 (fun _ => []) [] 0 0) (hm : mh_P a3 D3 (fun _ _ => 0) mo_I0) : gi_P c1 c2 x0 m0 sb L xs σ3 := by
  refine ⟨a3, D3, _, _, _, _, _, _, _, 0, 0, 0, 0, _, [], 0, 0, _, _, 0, 0, 0, 0, hl, hc, hm, ?_, fun f hf => absurd hf (Nat.not_lt_zero _), ?_, ?_, fun _ => ⟨rfl, rfl, rfl, rfl, rfl⟩, 0, rfl, by decide⟩
  · exact ⟨by decide, rfl, rfl, rfl, rfl, rfl, fun f hf => absurd hf (Nat.not_lt_zero _), fun f hf => absurd hf (Nat.not_lt_zero _), ⟨rfl, rfl, rfl⟩, fun f hf => absurd hf (Nat.not_lt_zero _), fun f hf => absurd hf (Nat.not_lt_zero _)⟩
  · exact ⟨⟨by decide, by decide, fun _ => ⟨rfl, rfl⟩, fun z => absurd rfl z⟩, ⟨rfl, rfl, rfl, rfl, rfl, rfl, Or.inl rfl⟩, fun t t1 t2 => absurd t2 (by omega), fun z => absurd rfl z⟩
  · exact ⟨fun _ => 0, fun i hi => ⟨rfl, Nat.le_refl _⟩, rfl, fun i hi => absurd hi (Nat.not_lt_zero _), tr_R.nil, Or.inl ⟨rfl, rfl⟩⟩
set_option maxRecDepth 100000 in
theorem pure_law (b z L : Nat) (xs : Nat → Int32) (hb : b < z) (hL : L ≤ 2048) : ev_W 1000 mLa_law (0, ri_loc 4 [Value.ref b], []) ((fun a => if a = b then some (.inl (.object "", L, .inl xs)) else none), z, 0) (fun v σ' => v = some (.int 1) ∧ σ'.2.1 ≤ z + 600000 ∧ σ'.2.2 ≤ 7302250) := by
  have hG0 : gw_P (fun _ => b) (fun i => if i = 98 then some (.inl (.object "", L, .inl xs)) else none) ((fun a => if a = b then some (.inl (.object "", L, .inl xs)) else none), z, 0) := by
    refine ⟨fun i j hi hj _ => ?_, fun i e he => ?_⟩
    · have h1 : i = 98 := by
        by_cases q : i = 98
        · exact q
        · exact absurd (if_neg q) hi
      have h2 : j = 98 := by
        by_cases q : j = 98
        · exact q
        · exact absurd (if_neg q) hj
      omega
    · dsimp only at he
      by_cases q : i = 98
      · rw [if_pos q] at he
        exact ⟨hb, (if_pos rfl).trans he⟩
      · rw [if_neg q] at he
        cases he
  refine mk_new hG0 0 (q := z) (sl := 0) rfl rfl rfl rfl rfl (fun σ1 hG1 e1 f1 => ?_)
  refine g_clC rfl rfl rfl (Or.inl rfl) rfl rfl rfl rfl ?_
  refine mk_striping hG1 rfl e1 f1 (fun a2 D2 σ2 hG2 ho2 hs2 hd2 he2 hC2 hc2 hF2 a20 e2 f2 => ?_)
  refine g_new rfl rfl rfl ?_
  refine g_clC rfl rfl rfl (Or.inl rfl) rfl rfl rfl rfl ?_
  refine mo_init (o := σ2.2.1) (σ0 := σ2) (sl := σ2.2.2 + 25) ⟨ri_up_s, fun j hj => absurd hj (Nat.not_lt_zero _), rfl, rfl, fun q hq => ri_up_n (Nat.ne_of_lt hq)⟩ (fun σ3 hm3 n3 s3 low3 => ?_)
  obtain ⟨a3, D3, g1, g2, g3, g4⟩ := hG2.mo rfl hm3 low3 n3
  have hgi : gi_P (24 * z + 784) 15135 z σ2.2.1 b L xs σ3 := by
    refine la_first a3 D3 σ3 ⟨?_, g3, ?_, ?_⟩ ⟨g1, 32, 32, 64, fun _ => 24, fun _ => 0, 0, 0, ?_, ?_, ?_, ?_, ?_, ?_, ?_, ?_⟩ g2
    · exact (g4 0 (by decide)).2.trans (a20.trans rfl)
    · exact (g4 98 (by decide)).2.trans ((hF2 98 (by decide)).2.trans rfl)
    · exact (g4 98 (by decide)).1.trans ((hF2 98 (by decide)).1.trans rfl)
    · rw [so_fr (a := a2) (a' := a3) (fun i hi => (g4 i (by omega)).2)]
      exact (g4 0 (by decide)).1.trans ho2
    · exact hs2.fr (fun i _ _ => g4 i (by omega))
    · exact hd2.fr (fun i _ _ => g4 i (by omega))
    · exact he2.fr (fun i _ _ => g4 i (by omega))
    · exact (g4 8 (by decide)).1.trans hC2
    · exact hc2.fr (fun i _ _ => g4 i (by omega))
    · show 24 * σ3.2.1 + 72 ≤ 24 * z + 784 + (32 + 32 + 64 + 0)
      omega
    · show σ3.2.2 + 2 ≤ 15135 + 2 * (32 + 32 + 64 + 0)
      have f2' : σ2.2.2 = 0 + 9 + 616 := f2
      omega
  refine ev_go 3 rfl ?_
  show ev_W 1000 mLa_law (18, [some (.ref b), some (.ref z), some (.ref σ2.2.1), some (.int (nI 0))], []) σ3 _
  exact la_loop hL (fun σ' h' => by
    have h1 := h'.room
    exact ⟨rfl, by omega, by omega⟩) L 0 σ3 (by omega) (by omega) hgi
end
section
/-! THE CLAIM OUT OF ONE WALK OF THE LAW'S BODY. Your part is whole_start (and what it stands on); all else here is the same for every law, but numbers. -/
def R_law : String := "StripingLaw"
def lw_P (b : Addr) (xs : List Int32) (args : Array Value) (s : State) : Prop := args = #[.ref b] ∧ s.IntsAt b xs ∧ xs.length ≤ 2048 ∧ (Jvm.Cond.and given_1 narrow_1).before args s = true
def lw_Q (_ : Array Value) (s : State) (o : Outcome) (t : State) : Prop := o = .returned (some (.int 1)) ∧ Framed s o t [] 600000 7302250
def lw_Z (below : List Frame) (a : Array Value) (s : State) : State → Prop := fun t => ∃ o, t.status = .running ∧ Ended t below o ∧ lw_Q a s o t
/-- the law's own end, with 1 on the stack, nothing written that was there before, its room as the claim has it -/
theorem lw_ret {p : Program} {l : Launch} {e : Env} {s : State} {m : MethodId} {below : List Frame} {meth : Method} {c : Code} {b : Nat} (hx : p.tables.exec = Jvm.exec) (hb : c.code = code) (hr : meth.sig.returnType = ret) (hlocks : meth.locks = false) {pc : Nat} {H : Heap} {ls : Array Slot} (hdg : decode code pc = .ok (.ireturn, 1)) : W p l e room_1 s m #[Value.ref b] below meth c H [] 600000 7302250 (lw_Z below #[Value.ref b] s) (F0 m pc ls [.int 1]) := by
  intro T hT X
  obtain ⟨fs, hret, hrun, hended, hW, hframe⟩ := X.leave (v := some (.int 1)) (hlocks := hlocks) (fun h => by rw [hr] at h; cases h)
  have hmeth' : T.vm.method? m = some meth := X.method'
  refine ⟨T.setFrames fs, ?_, .returned (some (.int 1)), hrun, hended, rfl, ⟨_, rfl⟩, hW, hframe⟩
  jvm_step X.here [X.here.top, hx, hb, hdg, hmeth', hr, ret, narrow_b1]
  (try refine ⟨rfl, ?_⟩); (try refine ⟨rfl, ?_⟩)
  first | (intro acts; rw [hret _ acts rfl rfl rfl]) | rw [hret _ _ rfl rfl rfl]
  exact Steps.refl _
/-- what holds at the law's entry: the machine, the code, the tables' words (any of lw_tbl by 'hts w (by decide +kernel)'), the script of L ints xs at the cell b, what the Statement gives of the start (any of its parts by flat_of_before) -/
def lw_At (p : Program) (s : State) (m : MethodId) (meth : Method) (c : Code) (b L : Nat) (xs : Nat → Int32) : Prop :=
  p.tables.exec = Jvm.exec ∧ c.code = code ∧ meth.sig.returnType = ret ∧ c.maxLocals = 4 ∧ s.vm.findClass R_law = some m.cls ∧ (∀ w ∈ lw_tbl, w.before #[Value.ref b] s = true) ∧ va_X b L xs s s.heap ∧ b < s.heap.size ∧ meth.locks = false ∧ (Jvm.Cond.and given_1 narrow_1).before #[Value.ref b] s = true
/-- the cells at the law's start: the script alone -/
def ri_s0 (b L : Nat) (xs : Nat → Int32) : Nat → Option ri_E := fun a => if a = b then some (.inl (.object "", L, .inl xs)) else none
theorem mLa_law_in : ∀ x ∈ mLa_law.2.2.2.2.2, ri_ck mLa_law.2.2.1 x := ri_cks_ok mLa_law_c
set_option maxHeartbeats 4000000 in
set_option maxRecDepth 100000 in
/-- from the entry, for every script of at most 2048 ints, the law comes to its end with true -/
theorem whole_start {p : Program} {e : Env} {s : State} {m : MethodId} {below : List Frame} {meth : Method} {c : Code} (l : Launch) {b L : Nat} {xs : Nat → Int32} (hL : L ≤ 2048) (C0 : lw_At p s m meth c b L xs) : W p l e room_1 s m #[Value.ref b] below meth c s.heap [] 0 0 (lw_Z below #[Value.ref b] s) (entryFrame m ([Value.ref b] : List Value).toArray 4) := by
  obtain ⟨hx, hb, hr, hml, hown, hts0, hX, hbl, hlocks, hgv⟩ := C0
  have hts : ∀ w ∈ rt_tbl, w.before #[Value.ref b] s = true := fun w hw => hts0 w (List.mem_filter.mp hw).1
  obtain ⟨dC, dI, hKc⟩ : ∃ (dC : Nat → ClassId) (dI : Nat → Nat → Nat), ∀ (k : Nat) (q : vw_C), vwCl[k]? = some q → u_Kn s q.1 q.2.1 q.2.2 (dC k) (dI k) := by
    obtain ⟨c0, i0, h0⟩ := u_known (C := "Striping$Columns") (T := rt_T0) (N := 2) (n := 2) hts rt_k0.1 (hts _ rt_inst0)
    obtain ⟨c1, i1, h1⟩ := u_known (C := "Striping$Draft") (T := rt_T1) (N := 7) (n := 7) hts rt_k1.1 (hts _ rt_inst1)
    obtain ⟨c2, i2, h2⟩ := u_known (C := "Striping$Events") (T := rt_T2) (N := 2) (n := 2) hts rt_k2.1 (hts _ rt_inst2)
    obtain ⟨c3, i3, h3⟩ := u_known (C := "Striping$Schema") (T := rt_T3) (N := 11) (n := 11) hts rt_k3.1 (hts _ rt_inst3)
    obtain ⟨c4, i4, h4⟩ := u_known (C := "Striping") (T := rt_T4) (N := 9) (n := 9) hts rt_k4.1 (hts _ rt_inst4)
    obtain ⟨c5, i5, h5⟩ := u_known (C := "StripingModel") (T := rt_T5) (N := 25) (n := 25) hts rt_k5.1 (hts _ rt_inst5)
    refine ⟨fun k => if k = 0 then c0 else if k = 1 then c1 else if k = 2 then c2 else if k = 3 then c3 else if k = 4 then c4 else c5, fun k => if k = 0 then i0 else if k = 1 then i1 else if k = 2 then i2 else if k = 3 then i3 else if k = 4 then i4 else i5, ?_⟩
    intro k q hq
    match k, hq with
    | 0, hq => cases hq; exact h0
    | 1, hq => cases hq; exact h1
    | 2, hq => cases hq; exact h2
    | 3, hq => cases hq; exact h3
    | 4, hq => cases hq; exact h4
    | 5, hq => cases hq; exact h5
    | k + 6, hq => simp [vwCl] at hq
  have arr : ∀ t : FieldType, Cond.arrayClass t ∈ rt_tbl → ∃ cA : ClassId, ArrOfT s cA t ∧ s.vm.findClass ("[" ++ t.toString) = some cA := fun t ht => by
    obtain ⟨cA, kA, comp, h1, h2, h3⟩ := Cond.arrayClass_spec (hts _ ht)
    exact ⟨cA, fun n z => ⟨fun k h => (by cases h), kA, h2, comp, h3⟩, h1⟩
  have hG : ri_G s := hts0 _ (List.mem_of_getElem? rt_over)
  obtain ⟨cI, hI1, hI2⟩ := arr .int rt_arr_int
  obtain ⟨cJ, hJ1, hJ2⟩ := arr .long rt_arr_long
  obtain ⟨cZ, hZ1, hZ2⟩ := arr .boolean rt_arr_bool
  obtain ⟨comp, cG, kG, g1, -, g3, g4, g5⟩ := hG.spec
  have hG1 : ArrOfT s cG (.array .int) := fun n z => ⟨fun k h => (by cases h), kG, g3, comp, g4⟩
  obtain ⟨aC, a1, a2, a3, a4⟩ : ∃ aC : FieldType → ClassId, aC .int = cI ∧ aC .long = cJ ∧ aC .boolean = cZ ∧ aC (.array .int) = cG := ⟨fun t => match t with
    | .int => cI
    | .long => cJ
    | .boolean => cZ
    | _ => cG, rfl, rfl, rfl, rfl⟩
  have hK : ri_K (dC, dI) aC s := by
    refine ⟨⟨hKc, fun k q hq => ?_⟩, fun w hw => va_Nw.of (rt_sd_ok w hw).1 (hts0 w (List.mem_filter.mp hw).1), hG⟩
    match k, hq with
    | 0, hq => cases hq; dsimp only; rw [a1]; exact ⟨hI1, hI2⟩
    | 1, hq => cases hq; dsimp only; rw [a2]; exact ⟨hJ1, hJ2⟩
    | 2, hq => cases hq; dsimp only; rw [a4]; exact ⟨hG1, g5⟩
    | 3, hq => cases hq; dsimp only; rw [a3]; exact ⟨hZ1, hZ2⟩
    | k + 4, hq => simp [rt_ty] at hq
  obtain ⟨n, v, σ', hrun, hv, hc1, hc2⟩ := pure_law b s.heap.size L xs hbl hL
  have hC : ri_C (dC, dI) aC mLa_law p s m #[Value.ref b] meth c := ⟨hx, hb, hml, hr, hown, hts, hlocks, fun q => absurd q (by decide), hK⟩
  have hR : ri_R (dC, dI) aC s.heap.size s (ri_s0 b L xs, s.heap.size, 0) s.heap := by
    refine ⟨rfl, Nat.le_refl _, fun a x ha => ?_⟩
    change ri_s0 b L xs a = some x at ha
    unfold ri_s0 at ha
    by_cases q : a = b
    · rw [if_pos q] at ha
      cases ha
      rw [q]
      exact ⟨hbl, hX⟩
    · rw [if_neg q] at ha
      cases ha
  have m0 := ri_mono _ _ _ _ _ _ _ hrun
  rw [lg_entry_eq]
  refine ri_sound n 1000 mLa_law (0, ri_loc 4 [Value.ref b], []) (ri_s0 b L xs, s.heap.size, 0) σ' v hrun mLa_law_in hC hR va_S.rf (ri_entry [Value.ref b] (Nat.le_of_ble_eq_true rfl)) rfl (by decide) (by decide) (by show 0 + (σ'.2.1 - s.heap.size) ≤ 600000; omega) (by show 0 + (σ'.2.2 - 0) ≤ 7302250; omega) ?_
  intro H1 locs1 ls1 pc1 i st1 q1 q2 q3 q4
  subst hv
  have e : i = .ireturn ∧ st1 = [.int 1] := by
    unfold ri_rt at q2
    (repeat' split at q2) <;> first | (cases q2; done) | (cases q2; exact ⟨rfl, rfl⟩) | (rename_i hz; cases hz; done)
  obtain ⟨rfl, rfl⟩ := e
  refine va_forget (fun q hq => q4.2.2 q hq) ?_
  refine W.widen (k := 600000) (n := 7302250) (by show 0 + (σ'.2.1 - s.heap.size) ≤ 600000; omega) (by show 0 + (σ'.2.2 - 0) ≤ 7302250; omega) ?_
  exact lw_ret hx hb hr hlocks q1
set_option maxHeartbeats 4000000 in
theorem lw_walk (l : Launch) (b : Addr) (xs : List Int32) : MetFree l x (headSpec (Jvm.Cond.code x code maxLocals ret :: tables_1) room_1) (lw_P b xs) (fun _ _ _ _ _ => True) lw_Q := by
  refine MetFree.of_bodyS (code := code) (maxLocals := maxLocals) (ret := ret) (by decide) ?_ ?_
  · intro args s m h hn
    obtain ⟨meth, c, h1, h2, h3, h4, h5, h6, -, -⟩ := Cond.code_spec hn (atoms_spec (ws := Jvm.Cond.code x code maxLocals ret :: tables_1) h _ List.mem_cons_self)
    exact ⟨meth, c, h1, h2, h3, h4, h5, h6⟩
  · intro p e s m args below meth c s₁ B hml0 hP _
    obtain ⟨rfl, hx, hbd, hgv⟩ := hP
    obtain ⟨scr, harrAt, hlist, hof, hsmall⟩ := hx
    obtain ⟨hcb, hkn, -, -⟩ := State.arrayAt?_spec harrAt
    have hown : s.vm.findClass R_law = some m.cls := findClass_of_methodNamed B.named
    have hts0 : ∀ c ∈ (Jvm.Cond.code x code maxLocals ret :: tables_1), c.before #[Value.ref b] s = true := atoms_spec (ws := Jvm.Cond.code x code maxLocals ret :: tables_1) B.pre
    have hts : ∀ w ∈ lw_tbl, w.before #[Value.ref b] s = true := k2_hts_sels lw_privs (fun w hw => hts0 w (List.mem_cons_of_mem _ hw)) lw_privs_ok
    have hml : c.maxLocals = 4 := B.maxLocals_eq (hts0 _ List.mem_cons_self)
    have X₀ : Stand p l e room_1 s m #[Value.ref b] below meth c s₁ [] 0 0 := Stand.of_body B
    have hh0 : s₁.heap = s.heap := by rw [B.state]; rfl
    have hsz : scr.slots.size = xs.length := by rw [← Array.length_toList, hlist, List.length_map]
    have hval : ∀ j : Nat, j < xs.length → scr.slots[j]? = some (.int (xs.getD j 0)) := fun j hj => by
      rw [← Array.getElem?_toList, hlist]
      simp [hj]
    have hbl : b < s.heap.size := (Array.getElem?_eq_some_iff.mp hcb).1
    have hX : va_X b xs.length (fun j => xs.getD j 0) s s.heap := ⟨scr, hcb, hof, hkn, hsz, hval⟩
    have K : W p l e room_1 s m #[Value.ref b] below meth c s₁.heap [] 0 0 (lw_Z below #[Value.ref b] s) (entryFrame m ([Value.ref b] : List Value).toArray 4) := by
      rw [hh0]
      exact whole_start l hbd ⟨B.exec, B.bytes, B.returns, hml, hown, hts, hX, hbl, B.notSynchronized, hgv⟩
    obtain ⟨t, a1, o, b1, b2, b3⟩ := K s₁ rfl X₀
    exact ⟨t, o, a1, b1, b2, b3⟩
theorem lw_pre_spec {args : Array Value} {s : State} (h : (Jvm.Cond.and given_1 narrow_1).before args s = true) (hr : rest_1_c.before args s = true) : ∃ (b : Addr) (xs : List Int32), lw_P b xs args s := by
  have hs := flat_of_before _ h
  have hq := flat_of_before _ hr
  have hc : (Cond.count 1).before args s = true := hs _ (by decide +kernel)
  have harr : (Cond.arrayOf (.arg 0) .int).before args s = true := hs _ (by decide +kernel)
  have hle : (Cond.le (.length (.arg 0)) (.int 2048)).before args s = true := hs _ (by decide +kernel)
  have hlen : (Cond.isInt (.length (.arg 0))).before args s = true := hq _ (by decide +kernel)
  have hall : (Cond.all (.arg 0) (.isInt (.elem (.arg 0) (.index 0)))).before args s = true := hq _ (by decide +kernel)
  obtain ⟨b, xs, hb, hx⟩ := State.ints_of_pre rfl harr hlen hall
  have hsm : xs.length < 2 ^ 31 := hx.choose_spec.2.2.2
  have hev : (Term.length (.arg 0)).eval args s none [] s = some (.int xs.length.toInt32) := hx.length_eval hb
  have hv := Cond.le_ints hev (show (Term.int 2048).eval args s none [] s = some (.int 2048) from rfl)
  have hd : xs.length.toInt32 ≤ 2048 := by
    simpa [Cond.before, Cond.holds, hv] using hle
  have hN : xs.length ≤ 2048 := (Int32.ofNat_le_ofNat hsm (by decide)).mp (show Int32.ofNat xs.length ≤ Int32.ofNat 2048 from hd)
  exact ⟨b, xs, Cond.one_arg hc (show args[0]? = some (.ref b) from hb), hx, hN, h⟩
theorem lw_comes (l : Launch) : Comes l x (Jvm.Cond.code x code maxLocals ret :: tables_1) room_1 (fun tb e args s => Calls_1 tb e args s ∧ rest_1 tb e args s ∧ Pre_1 tb e args s)
    (fun _ _ args s o t => lw_Q args s o t) := by
  intro p e ha hc hk s m args below hf hfit hheap happ hpre
  obtain ⟨b, xs, hP⟩ := lw_pre_spec hpre.2.2 hpre.2.1
  obtain ⟨k, o, h1, h2, h3, hQ⟩ := lw_walk l b xs p e ha hc hk s m args below hf ((Spec.applies_iff_loose hf).mp happ).1 hP trivial
  exact ⟨k, o, h1, h2, h3, hQ⟩
theorem lw_frame {s t : State} {o : Outcome} {args : Array Value} (h : Framed s o t [] 600000 7302250) :
    Framed s o t (fieldLocs frame_1_writes args s ++ arrayLocs frame_1_arrays args s ++ staticLocs frame_1_statics s) 600000 7302250 := h
theorem lw_limb (L : Cond) (hL : ∀ (args : Array Value) (s t : State), L.after args s (.returned (some (.int 1))) t = true) :
    ArmFor flags0 classFile x code maxLocals ret World_1 tables_1 room_1 Calls_1 rest_1 Pre_1
      (fun tb e a s o t => postC L tb e a s o t ∧ Framed s o t (fieldLocs frame_1_writes a s ++ arrayLocs frame_1_arrays a s ++ staticLocs frame_1_statics s) 600000 7302250) := by
  intro l _ _ _ p e ha hc hk s m args below hf hfit hheap happ hpre
  obtain ⟨k, o, h1, h2, h3, rfl, hF⟩ := lw_comes l p e ha hc hk s m args below hf hfit hheap happ hpre
  exact ⟨k, _, h1, h2, h3, hL args s _, lw_frame hF⟩
theorem i_vc : Claimed_1_1 ∧ Claimed_1_2 := ⟨lw_limb limb_1_1 (fun args s t => by simp [limb_1_1, Cond.after, Cond.holds, Cond.value]), lw_limb limb_1_2 (fun args s t => Cond.after_iff.mpr (by
  first | (rw [show limb_1_2 = Cond.eq .result (.int 1) from rfl, Cond.eq_ints (x := 1) (y := 1) rfl rfl]; simp; done) | (simp [limb_1_2, Cond.value, Term.eval]; done)))⟩
end
