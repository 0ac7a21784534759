/-! A step with cells is the machine's. What part 03 says of the tables: rt_f_ok, rt_n_ok, rt_k_ok, rt_arr. -/
section RIC
variable {p : Program} {l : Launch} {e : Env} {R : Room} {s : State} {m : MethodId} {args : Array Value} {below : List Frame} {meth : Method} {c : Code} {H : Heap} {locs : List Loc} {cells slots : Nat} {Q : State → Prop}
/-- where a method stands -/
def ri_C (D : va_G) (aC : FieldType → ClassId) (M : ri_M) (p : Program) (s : State) (m : MethodId) (args : Array Value) (meth : Method) (c : Code) : Prop :=
  p.tables.exec = Jvm.exec ∧ c.code = M.2.2.1 ∧ c.maxLocals = M.2.2.2.1 ∧ meth.sig.returnType = M.2.2.2.2.1 ∧ s.vm.findClass (rt_cn M.1) = some m.cls ∧ (∀ w ∈ rt_tbl, w.before args s = true) ∧ meth.locks = false ∧ (M.2.1.name = "<init>" → meth.name = "<init>") ∧ ri_K D aC s
theorem ri_asg (vm : Vm) (x : ClassId) : vm.assignable x x = true := by
  show vm.assignableAux (255 + 1) x x = true
  unfold Vm.assignableAux
  rw [beq_self_eq_true, Bool.true_or]
theorem ri_outer (c : ClassId) (N h0 : Nat) : ∀ i : Nat, Jvm.Free.Multi.outerC c N h0 i = arrV c N (fun j => va_rf (if j < i then some (h0 + 1 + j) else none))
  | 0 => by
    show ({ cls := c, slots := Array.replicate N .null, vm := .none } : Cell) = _
    rw [arrV_new]
    refine congrArg (arrV c N) (funext fun j => ?_)
    simp [va_rf]
  | i + 1 => by
    show (Jvm.Free.Multi.outerC c N h0 i).setSlot i (.ref (h0 + 1 + i)) = _
    rw [ri_outer c N h0 i, arrV_store]
    refine congrArg (arrV c N) (funext fun j => ?_)
    by_cases e : j = i
    · subst e
      simp [updV, va_rf]
    · by_cases h : j < i
      · simp [updV, e, h, Nat.lt_succ_of_lt h]
      · simp [updV, e, h, show ¬ j < i + 1 by omega]
theorem ri_in_not {j : Int32} {n : Nat} (h : ¬ (j < 0 ∨ n ≤ j.toNatClampNeg)) : vp_in j n := h
set_option maxHeartbeats 4000000 in
set_option maxRecDepth 100000 in
theorem ri_hxW {D : va_G} {aC : FieldType → ClassId} {z0 : Nat} {M : ri_M} (C0 : ri_C D aC M p s m args meth c) {pc : Nat} {x : Instr × Nat × Nat × Int32} (hc : ri_ck M.2.2.1 (pc, x)) {st st' : List Value} {σ σ' : ri_S} (h : ri_hx M x.1 st σ = some (st', σ')) {ls : Array Slot} {H0 : Heap} (hR : ri_R D aC z0 s σ H) (hS : va_S (fun q => z0 ≤ q) H0 H locs)
    (hcells : cells + (σ'.2.1 - σ.2.1) ≤ R.cells) (hslots : slots + (σ'.2.2 - σ.2.2) ≤ R.slots)
    (kk : ∀ (H1 : Heap) (locs1 : List Loc), ri_R D aC z0 s σ' H1 → va_S (fun q => z0 ≤ q) H0 H1 locs1 → W p l e R s m args below meth c H1 locs1 (cells + (σ'.2.1 - σ.2.1)) (slots + (σ'.2.2 - σ.2.2)) Q (F0 m x.2.1 ls st')) : W p l e R s m args below meth c H locs cells slots Q (F0 m pc ls st) := by
  obtain ⟨hx, hb, hml, hr, hown, hts, hlocks, hnm, hK⟩ := C0
  obtain ⟨i, np, tg, kv⟩ := x
  obtain ⟨hd, hs⟩ := hc
  dsimp only at hd h kk
  have same : ∀ {H1 : Heap} {locs1 : List Loc}, σ'.2 = σ.2 → ri_R D aC z0 s σ' H1 → va_S (fun q => z0 ≤ q) H0 H1 locs1 → W p l e R s m args below meth c H1 locs1 cells slots Q (F0 m np ls st') := by
    intro H1 locs1 e2 q1 q2
    refine W.cs ?_ ?_ (kk H1 locs1 q1 q2) <;> rw [e2] <;> omega
  cases i
  case getfield k =>
    obtain rfl : np = pc + 3 := by simpa [ri_sp] using hs
    simp only [ri_hx] at h
    split at h
    · rename_i a r
      split at h
      · rename_i cj j ty fl hf
        split at h
        · rename_i ck fs ha
          split at h
          · rename_i hck
            subst hck
            split at h
            · rename_i v hv
              cases h
              obtain ⟨C, T, N, g1, g2, g3, g4, g5⟩ := rt_f_ok hf
              obtain ⟨k1, -, -⟩ := rt_k_ok g1
              have hat : va_at D vwCl (a, .inr (ck, fs)) H := (hR.2.2 a _ ha).2
              rcases g5 with ⟨g5, -⟩ | ⟨-, host, g5⟩
              · exact va_get hx hb hts k1 hown hK.1 (ri_one hat) 0 rfl g1 j g2 (hts _ g5) (fun _ q => q) hv (ri_dl hd) (same rfl hR hS)
              · exact va_getN hx hb hts k1 hown hK.1 (ri_one hat) 0 rfl g1 j g2 (va_Nw.use rfl (hK.2.1 _ g5)) (fun _ q => q) hv (ri_dl hd) (same rfl hR hS)
            · cases h
          · cases h
        · cases h
      · cases h
    · cases h
  case putfield k =>
    obtain rfl : np = pc + 3 := by simpa [ri_sp] using hs
    simp only [ri_hx] at h
    split at h
    · rename_i v a r
      split at h
      · rename_i cj j ty fl hf
        split at h
        · rename_i ck fs ha
          split at h
          · rename_i hck
            obtain ⟨h1, h2, h3, h4, h5⟩ := hck
            subst h1
            cases h
            obtain ⟨C, T, N, g1, g2, g3, g4, g5⟩ := rt_f_ok hf
            obtain ⟨k1, ⟨ty0, k2⟩, k3⟩ := rt_k_ok g1
            have hat := hR.2.2 a _ ha
            refine ri_putW hx hb hts k1 ty0 k2 k3 hown hK.1 hat.2 g1 j g2 h4 g3 h2 h3 ?_ (ri_dl hd) (fun H1 jj e1 e2 e3 => ?_)
            · rcases g5 with ⟨g5, g6⟩ | ⟨g6, host, g5⟩
              · rcases h5 with h5 | ⟨h5, h6⟩
                · exact Or.inl ⟨g4.1 h5, hts _ g5⟩
                · exact Or.inr (Or.inr ⟨g4.2 (by omega), hts _ g5, hnm h6, g6 h5⟩)
              · rcases h5 with h5 | ⟨h5, h6⟩
                · exact Or.inr (Or.inl ⟨g4.1 h5, host, va_Nw.use rfl (hK.2.1 _ g5)⟩)
                · exact absurd h5 g6
            · exact same rfl (hR.set ⟨hat.1, e1⟩ e2 e3) (hS.put e2 e3 hat.1)
          · cases h
        · cases h
      · cases h
    · cases h
  case iaload =>
    obtain rfl : np = pc + 1 := by simpa [ri_sp] using hs
    simp only [ri_hx] at h
    split at h
    · rename_i j a r
      split at h
      · rename_i ea ha
        split at h
        · rename_i n f hf
          split at h
          · cases h
          · rename_i hj
            cases h
            have hat := hR.2.2 a _ ha
            rcases ri_ai_of hf with rfl | ⟨cn, rfl⟩
            · exact va_iald hx hb hK.1 (tys := rt_ty.map fun t => (aC t, t)) (ri_one (x := (a, .inl (aC .int, n, .inl f))) hat.2) 0 0 rfl rfl (ri_in_not hj) (ri_dl hd) (same rfl hR hS)
            · obtain ⟨-, scr, s1, s2, s3, s4, s5⟩ := hat
              have hlt : j.toNatClampNeg < n := Nat.not_le.mp fun q => hj (Or.inr q)
              exact W.iald hx hb s1 s2 s3 (by rw [s4]; exact hj) (s5 _ hlt) rfl rfl (ri_dl hd) (same rfl hR hS)
        · cases h
      · cases h
    · cases h
  case laload =>
    obtain rfl : np = pc + 1 := by simpa [ri_sp] using hs
    simp only [ri_hx] at h
    split at h
    · rename_i j a r
      split at h
      · rename_i n f ha
        split at h
        · cases h
        · rename_i hj
          cases h
          have hat := hR.2.2 a _ ha
          exact va_lald hx hb hK.1 (tys := rt_ty.map fun t => (aC t, t)) (ri_one (x := (a, .inl (aC .long, n, .inr (.inl f)))) hat.2) 0 1 rfl rfl (ri_in_not hj) (ri_dl hd) (same rfl hR hS)
      · cases h
    · cases h
  case aaload =>
    obtain rfl : np = pc + 1 := by simpa [ri_sp] using hs
    simp only [ri_hx] at h
    split at h
    · rename_i j a r
      split at h
      · rename_i n f ha
        split at h
        · cases h
        · rename_i hj
          cases h
          have hat := hR.2.2 a _ ha
          have hlt : j.toNatClampNeg < n := Nat.not_le.mp fun q => hj (Or.inr q)
          exact W.aald (v := va_rf (f j.toNatClampNeg)) (ty := .array .int) hx hb hat.2 ((ri_K.arr hK rt_ty_arr).1 n (fun j => va_rf (f j))) rfl (fun q => by cases q) (by show ¬ (j < 0 ∨ (arrV _ _ _).slots.size ≤ _); rw [arrV_size]; exact hj) (by show (arrV _ _ _).slots[_]? = _; rw [arrV_read _ _ hlt]) rfl rfl (ri_dl hd) (same rfl hR hS)
      · cases h
    · cases h
  case iastore =>
    obtain rfl : np = pc + 1 := by simpa [ri_sp] using hs
    simp only [ri_hx] at h
    split at h
    · rename_i v j a r
      split at h
      · rename_i n f ha
        split at h
        · cases h
        · rename_i hj
          cases h
          have hat := hR.2.2 a _ ha
          refine W.iast hx hb hat.2 ((ri_K.arr hK rt_ty_int_in).1 n (fun j => .int (f j))) (fun q => by cases q) (by show ¬ (j < 0 ∨ (arrV _ _ _).slots.size ≤ _); rw [arrV_size]; exact hj) rfl rfl (ri_dl hd) fun H1 e1 z oq => ?_
          refine same rfl (hR.set (e := .inl (.int, n, .inl (upd f j.toNatClampNeg v))) ⟨hat.1, ?_⟩ z oq) (hS.put z oq hat.1)
          show H1[a]? = some (vp_cell _ _)
          rw [e1]
          rw [vp_cell_i, vp_cell_i, arrV_store]
          congr 2
          funext q
          by_cases hq : q = j.toNatClampNeg
          · subst hq
            simp [updV, upd]
          · simp [updV, upd, hq]
      · cases h
    · cases h
  case lastore =>
    obtain rfl : np = pc + 1 := by simpa [ri_sp] using hs
    simp only [ri_hx] at h
    split at h
    · rename_i v j a r
      split at h
      · rename_i n f ha
        split at h
        · cases h
        · rename_i hj
          cases h
          have hat := hR.2.2 a _ ha
          refine W.last hx hb hat.2 ((ri_K.arr hK rt_ty_long_in).1 n (fun j => .long (f j))) (fun q => by cases q) (by show ¬ (j < 0 ∨ (arrV _ _ _).slots.size ≤ _); rw [arrV_size]; exact hj) rfl rfl (ri_dl hd) fun H1 e1 z oq => ?_
          refine same rfl (hR.set (e := .inl (.long, n, .inr (.inl (vp_updL f j.toNatClampNeg v)))) ⟨hat.1, ?_⟩ z oq) (hS.put z oq hat.1)
          show H1[a]? = some (vp_cell _ _)
          rw [e1]
          rw [vp_cell_l, vp_cell_l, arrV_store]
          congr 2
          funext q
          by_cases hq : q = j.toNatClampNeg
          · subst hq
            simp [updV, vp_updL]
          · simp [updV, vp_updL, hq]
      · cases h
    · cases h
  case arraylength =>
    obtain rfl : np = pc + 1 := by simpa [ri_sp] using hs
    simp only [ri_hx] at h
    split at h
    · rename_i a r
      split at h
      · rename_i ea ha
        split at h
        · rename_i n f hf
          cases h
          have hat := hR.2.2 a _ ha
          rcases ri_ai_of hf with rfl | ⟨cn, rfl⟩
          · exact va_alen hx hb hK.1 (tys := rt_ty.map fun t => (aC t, t)) (ri_one (x := (a, .inl (aC .int, n, .inl f))) hat.2) 0 0 rfl rfl rfl (ri_dl hd) (same rfl hR hS)
          · obtain ⟨-, scr, s1, s2, s3, s4, s5⟩ := hat
            exact W.alen (n := nI n) hx hb s1 s2 (by rw [s4]; rfl) rfl rfl (ri_dl hd) (same rfl hR hS)
        · cases h
      · cases h
    · cases h
  case newarray t =>
    obtain rfl : np = pc + 2 := by simpa [ri_sp] using hs
    simp only [ri_hx] at h
    split at h
    · rename_i n r
      split at h
      · cases h
      · rename_i hn
        have hn0 : ¬ n < 0 := fun q => hn (Or.inl q)
        have hn1 : n.toNatClampNeg ≤ 67108864 := Nat.not_lt.mp fun q => hn (Or.inr q)
        cases t
        case int =>
          cases h
          dsimp only at hcells hslots kk
          have z1 : σ.2.1 + 1 - σ.2.1 = 1 := by omega
          have z2 : σ.2.2 + n.toNatClampNeg - σ.2.2 = n.toNatClampNeg := by omega
          rw [z1] at hcells kk
          rw [z2] at hslots kk
          refine va_newaK (atype := .int) hx hb (hts _ rt_arr_int) rfl (ri_dl hd) rfl hn0 rfl (by show _ * 4 ≤ _; omega) hcells hslots rfl fun H1 cA e1 e2 e3 e4 e5 => ?_
          have hcA : cA = aC .int := Option.some.inj (e5.symm.trans (ri_K.arr hK rt_ty_int_in).2)
          subst hcA
          have hk := kk H1 locs (hR.new (e := .inl (.int, n.toNatClampNeg, .inl fun _ => 0)) ⟨hR.2.1, e1⟩ e2 e3) (ri_S.new hS (by omega) e3)
          rw [← hR.1] at hk
          exact hk
        case boolean =>
          cases h
          dsimp only at hcells hslots kk
          have z1 : σ.2.1 + 1 - σ.2.1 = 1 := by omega
          have z2 : σ.2.2 + n.toNatClampNeg - σ.2.2 = n.toNatClampNeg := by omega
          rw [z1] at hcells kk
          rw [z2] at hslots kk
          refine va_newaK (atype := .boolean) hx hb (hts _ rt_arr_bool) rfl (ri_dl hd) rfl hn0 rfl (by show _ * 1 ≤ _; omega) hcells hslots rfl fun H1 cA e1 e2 e3 e4 e5 => ?_
          have hcA : cA = aC .boolean := Option.some.inj (e5.symm.trans (ri_K.arr hK rt_ty_bool_in).2)
          subst hcA
          have hk := kk H1 locs (hR.new (e := .inl (.boolean, n.toNatClampNeg, .inl fun _ => 0)) ⟨hR.2.1, e1⟩ e2 e3) (ri_S.new hS (by omega) e3)
          rw [← hR.1] at hk
          exact hk
        case long =>
          cases h
          dsimp only at hcells hslots kk
          have z1 : σ.2.1 + 1 - σ.2.1 = 1 := by omega
          have z2 : σ.2.2 + n.toNatClampNeg - σ.2.2 = n.toNatClampNeg := by omega
          rw [z1] at hcells kk
          rw [z2] at hslots kk
          refine va_newaK (atype := .long) hx hb (hts _ rt_arr_long) rfl (ri_dl hd) rfl hn0 rfl (by show _ * 8 ≤ _; omega) hcells hslots rfl fun H1 cA e1 e2 e3 e4 e5 => ?_
          have hcA : cA = aC .long := Option.some.inj (e5.symm.trans (ri_K.arr hK rt_ty_long_in).2)
          subst hcA
          have hk := kk H1 locs (hR.new (e := .inl (.long, n.toNatClampNeg, .inr (.inl fun _ => 0))) ⟨hR.2.1, e1⟩ e2 e3) (ri_S.new hS (by omega) e3)
          rw [← hR.1] at hk
          exact hk
        all_goals cases h
    · cases h
  case new k =>
    obtain rfl : np = pc + 3 := by simpa [ri_sp] using hs
    simp only [ri_hx] at h
    split at h
    · rename_i cj fs hf
      cases h
      dsimp only at hcells hslots kk
      have z1 : σ.2.1 + 1 - σ.2.1 = 1 := by omega
      have z2 : σ.2.2 + fs.length - σ.2.2 = fs.length := by omega
      rw [z1] at hcells kk
      rw [z2] at hslots kk
      obtain ⟨C, T, N, ty0, g1, g2, g3, g4, g5, g6, g7⟩ := rt_n_ok hf
      subst g6
      obtain ⟨k1, -, -⟩ := rt_k_ok g1
      have hKn := hK.1.1 cj _ g1
      refine W.newcK hx hb hown (hts _ g3) (hts _ g4) (hts _ g5) rfl (ri_dl hd) hcells hslots hKn.2.1 rfl fun H1 kC hkC e1 e2 e3 => ?_
      have hk := kk H1 locs (hR.new (e := .inr (cj, fs)) ⟨hR.2.1, ⟨_, g1, (u_born ty0 hts k1 hKn hkC e1 g2).to g7⟩⟩ e2 e3) (ri_S.new hS (by omega) e3)
      rw [← hR.1] at hk
      exact hk
    · cases h
  case baload =>
    obtain rfl : np = pc + 1 := by simpa [ri_sp] using hs
    simp only [ri_hx] at h
    split at h
    · rename_i j a r
      split at h
      · rename_i n f ha
        split at h
        · cases h
        · rename_i hj
          cases h
          have hat := hR.2.2 a _ ha
          exact va_zald hx hb hK.1 (tys := rt_ty.map fun t => (aC t, t)) (ri_one (x := (a, .inl (aC .boolean, n, .inl f))) hat.2) 0 3 rfl rfl (ri_in_not hj) (ri_dl hd) (same rfl hR hS)
      · cases h
    · cases h
  case bastore =>
    obtain rfl : np = pc + 1 := by simpa [ri_sp] using hs
    simp only [ri_hx] at h
    split at h
    · rename_i v j a r
      split at h
      · rename_i n f ha
        split at h
        · cases h
        · rename_i hj
          cases h
          have hat := hR.2.2 a _ ha
          refine W.zast hx hb hat.2 ((ri_K.arr hK rt_ty_bool_in).1 n (fun j => .int (f j))) (fun q => by cases q) (by show ¬ (j < 0 ∨ (arrV _ _ _).slots.size ≤ _); rw [arrV_size]; exact hj) rfl rfl (ri_dl hd) fun H1 e1 z oq => ?_
          refine same rfl (hR.set (e := .inl (.boolean, n, .inl (upd f j.toNatClampNeg (vp_nar .boolean v)))) ⟨hat.1, ?_⟩ z oq) (hS.put z oq hat.1)
          show H1[a]? = some (vp_cell _ _)
          rw [e1]
          rw [vp_cell_i, vp_cell_i, arrV_store]
          congr 2
          funext q
          by_cases hq : q = j.toNatClampNeg
          · subst hq
            simp [updV, upd, vp_nar, narrow]
          · simp [updV, upd, hq]
      · cases h
    · cases h
  case aastore =>
    obtain rfl : np = pc + 1 := by simpa [ri_sp] using hs
    simp only [ri_hx] at h
    split at h
    · rename_i v j a r
      split at h
      · rename_i n f ha
        split at h
        · rename_i n2 f2 hv
          split at h
          · cases h
          · rename_i hj
            cases h
            have hat := hR.2.2 a _ ha
            have hav := hR.2.2 v _ hv
            obtain ⟨comp, c0, k, o1, -, o3, o4, o5⟩ := hK.2.2.spec
            have e5 : c0 = aC (.array .int) := Option.some.inj (o5.symm.trans (ri_K.arr hK rt_ty_arr).2)
            have e6 : comp = aC .int := Option.some.inj (o1.symm.trans (ri_K.arr hK rt_ty_int_in).2)
            rw [e5] at o3
            rw [e6] at o4
            obtain ⟨kC, hkC, -⟩ := Vm.findClass_spec (ri_K.arr hK rt_ty_int_in).2
            have h0 : ¬ j < 0 := fun q => hj (Or.inl q)
            have hlt : j.toNatClampNeg < n := Nat.not_le.mp fun q => hj (Or.inr q)
            refine W.aast hx hb hat.2 (fun q h => by cases h) (fun h => by cases h) o3 o4 rfl hkC ⟨h0, by show _ < (arrV _ _ _).slots.size; rw [arrV_size]; exact hlt⟩ hav.2 (fun q h => by cases h) hkC (ri_asg _ _) rfl rfl (ri_dl hd) fun H1 e1 z oq => ?_
            refine same rfl (hR.set (e := .inl (.array .int, n, .inr (.inr (.inr (.inr (va_up f j.toNatClampNeg (some v))))))) ⟨hat.1, ?_⟩ z oq) (hS.put z oq hat.1)
            show H1[a]? = some (vp_cell _ _)
            rw [e1]
            rw [vp_cell_q, vp_cell_q, arrV_store]
            congr 2
            funext q
            by_cases hq : q = j.toNatClampNeg
            · subst hq
              simp [updV, va_up, va_rf]
            · simp [updV, va_up, hq]
        · cases h
      · cases h
    · cases h
  case multianewarray k dm =>
    obtain rfl : np = pc + 4 := by simpa [ri_sp] using hs
    by_cases hdm : dm = 2
    · subst hdm
      simp only [ri_hx] at h
      split at h
      · rename_i hm
        split at h
        · rename_i mm n r
          split at h
          · cases h
          · rename_i hq
            cases h
            have hn0 : ¬ n < 0 := fun q => hq (Or.inl q)
            have hm0 : ¬ mm < 0 := fun q => hq (Or.inr (Or.inl q))
            have hn1 : n.toNatClampNeg ≤ 67108864 := Nat.not_lt.mp fun q => hq (Or.inr (Or.inr (Or.inl q)))
            have hm1 : mm.toNatClampNeg ≤ 67108864 := Nat.not_lt.mp fun q => hq (Or.inr (Or.inr (Or.inr q)))
            dsimp only at hcells hslots kk
            have z1 : σ.2.1 + 1 + n.toNatClampNeg - σ.2.1 = 1 + n.toNatClampNeg := by omega
            have z2 : σ.2.2 + n.toNatClampNeg + n.toNatClampNeg * mm.toNatClampNeg - σ.2.2 = n.toNatClampNeg + n.toNatClampNeg * mm.toNatClampNeg := by omega
            rw [z1] at hcells kk
            rw [z2] at hslots kk
            intro T hT X
            have hdd : decode c.code pc = .ok (.multianewarray k 2, 4) := by rw [hb]; exact ri_dl hd
            obtain ⟨vm₁, cA, comp, -, fA, fC, hO, -, X', step⟩ := X.multianewarray2F hx hown (ty := .int) (hts _ (rt_m_ok hm)) (show (Cond.arrayOver (.array .int)).before args s = true from hK.2.2) (hts _ rt_arr_int) (g := F0 m pc ls (.int mm :: .int n :: r)) rfl hdd rfl hn0 hm0 (by omega) (by show _ * 4 ≤ _; omega) (by omega) rfl rfl hcells hslots
            have eA : cA = aC (.array .int) := Option.some.inj (fA.symm.trans (ri_K.arr hK rt_ty_arr).2)
            have eC : comp = aC .int := Option.some.inj (fC.symm.trans (ri_K.arr hK rt_ty_int_in).2)
            subst eA
            subst eC
            generalize hF : Jvm.Free.Multi.fill (T.setVm vm₁) (aC (.array .int)) (aC .int) n.toNatClampNeg mm.toNatClampNeg (defaultValue .int) n.toNatClampNeg = F at X' step
            have hTh : (T.setVm vm₁).heap = H := hT
            obtain ⟨f1, f2, -, -⟩ := Jvm.Free.Multi.fill_facts (T.setVm vm₁) (aC (.array .int)) (aC .int) n.toNatClampNeg mm.toNatClampNeg (defaultValue .int) n.toNatClampNeg
            rw [hF, hTh] at f1 f2
            have hold : ∀ x : Nat, x < H.size → F.heap[x]? = H[x]? := fun x hx => by
              have := Jvm.Free.Multi.fill_old (T.setVm vm₁) (aC (.array .int)) (aC .int) n.toNatClampNeg mm.toNatClampNeg (defaultValue .int) (a := x) (by rw [hTh]; exact hx) n.toNatClampNeg
              rw [hF, hTh] at this
              exact this
            have hrow : ∀ j : Nat, j < n.toNatClampNeg → F.heap[H.size + 1 + j]? = some (vp_cell (aC .int) (mm.toNatClampNeg, .inl fun _ => 0)) := fun j hj => by
              have := Jvm.Free.Multi.fill_inner (T.setVm vm₁) (aC (.array .int)) (aC .int) n.toNatClampNeg mm.toNatClampNeg (defaultValue .int) n.toNatClampNeg j hj
              rw [hF, hTh] at this
              rw [this, vp_cell_i]
              exact congrArg some (arrV_new _ _ _)
            rw [ri_outer] at f2
            have hsz : H.size = σ.2.1 := hR.1
            have hR2 : ri_R D aC z0 s (ri_grid σ.1 σ.2.1 n.toNatClampNeg mm.toNatClampNeg, σ.2.1 + 1 + n.toNatClampNeg, σ.2.2 + n.toNatClampNeg + n.toNatClampNeg * mm.toNatClampNeg) F.heap := by
              refine ⟨by rw [f1, hsz], by rw [f1]; have := hR.2.1; omega, fun q x hx => ?_⟩
              change ri_grid σ.1 σ.2.1 n.toNatClampNeg mm.toNatClampNeg q = some x at hx
              unfold ri_grid at hx
              by_cases h1 : q = σ.2.1
              · rw [if_pos h1] at hx
                cases hx
                rw [h1, ← hsz]
                exact ⟨hR.2.1, f2⟩
              · rw [if_neg h1] at hx
                by_cases h2 : σ.2.1 < q ∧ q ≤ σ.2.1 + n.toNatClampNeg
                · rw [if_pos h2] at hx
                  cases hx
                  have h3 := hrow (q - (H.size + 1)) (by omega)
                  rw [show H.size + 1 + (q - (H.size + 1)) = q by omega] at h3
                  exact ⟨by have := hR.2.1; omega, h3⟩
                · rw [if_neg h2] at hx
                  exact (hR.2.2 q x hx).kept (hold q (hR.2.2 q x hx).lt)
            have z3 : cells + 1 + n.toNatClampNeg = cells + (1 + n.toNatClampNeg) := by omega
            have z4 : slots + n.toNatClampNeg + n.toNatClampNeg * mm.toNatClampNeg = slots + (n.toNatClampNeg + n.toNatClampNeg * mm.toNatClampNeg) := by omega
            rw [z3, z4] at X'
            obtain ⟨t, a1, b1⟩ := kk F.heap locs hR2 (ri_S.new hS (by omega) hold) F rfl X'
            refine ⟨t, step t ?_, b1⟩
            have e : T.heap.size = σ.2.1 := by rw [hT]; exact hsz
            rw [e]
            exact a1
        · cases h
      · cases h
    · exfalso
      unfold ri_hx at h
      split at h <;> first | (cases h; done) | (rename_i hz; cases hz; exact hdm rfl) | contradiction
  all_goals cases h
end RIC
