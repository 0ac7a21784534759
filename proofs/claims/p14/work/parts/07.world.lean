/-! The small machine's cells against the heap. rt_tbl: the words that every method has; rt_sd: those of nest mates, carried beside; vwCl: the classes; rt_ty: the arrays' component types. -/
def ri_ro (t : FieldType) (x : vp_A) : Option (Nat → Int32) := match t with
  | .object _ => match x.2 with
    | .inl f => some f
    | _ => none
  | _ => none
/-- a cell: the script (old, never written), an array, an object -/
def ri_at (D : va_G) (aC : FieldType → ClassId) (z0 : Nat) (s : State) (a : Nat) (e : ri_E) (H : Heap) : Prop := match e with
  | .inl (t, x) => match ri_ro t x with
    | some f => a < z0 ∧ va_X a x.1 f s H
    | none => z0 ≤ a ∧ H[a]? = some (vp_cell (aC t) x)
  | .inr o => z0 ≤ a ∧ va_at D vwCl (a, .inr o) H
def ri_R (D : va_G) (aC : FieldType → ClassId) (z0 : Nat) (s : State) (σ : ri_S) (H : Heap) : Prop := H.size = σ.2.1 ∧ z0 ≤ H.size ∧ ∀ (a : Nat) (e : ri_E), σ.1 a = some e → ri_at D aC z0 s a e H
/-- int[][] stands over int[] -/
def ri_G (U : State) : Prop := (Cond.arrayOver (.array .int)).before #[] U = true
theorem ri_G.spec {U : State} (h : ri_G U) : ∃ comp c k, U.vm.findClass (FieldType.array .int).toString = some comp ∧ (U.vm.classes.findIdx? fun (x : Class) => match x.kind with | .array component _ => component == comp | _ => false) = some c ∧ U.vm.classes[c]? = some k ∧ k.kind = .array comp (.array .int) ∧ U.vm.findClass ("[" ++ (FieldType.array .int).toString) = some c := by
  unfold ri_G Cond.before at h
  simp only [Cond.holds, Cond.value, beq_iff_eq] at h
  cases hc : U.vm.findClass (FieldType.array .int).toString with
  | none => simp [hc] at h
  | some comp =>
    simp only [hc, Option.bind_some, Option.bind_eq_some_iff, Option.map_eq_some_iff] at h
    obtain ⟨c, hi, k, hk, hb⟩ := h
    obtain ⟨hlt, hp, -⟩ := Array.findIdx?_eq_some_iff_getElem.mp hi
    have hkk : U.vm.classes[c] = k := (Array.getElem?_eq_some_iff.mp hk).2
    rw [hkk] at hp
    cases hkind : k.kind with
    | array component ty =>
      rw [hkind] at hb hp
      simp at hb hp
      exact ⟨comp, c, k, rfl, hi, hk, by rw [hkind, hp, hb.1], hb.2⟩
    | _ => rw [hkind] at hb; simp at hb
theorem ri_G.moved {u U : State} (hvm : u.vm.Alike U.vm) (h : ri_G u) : ri_G U := by
  obtain ⟨comp, c, k, h1, h2, h3, h4, h5⟩ := h.spec
  obtain ⟨k', hk', he⟩ := hvm.2.2 _ _ h3
  have hi : (U.vm.classes.findIdx? fun (x : Class) => match x.kind with | .array component _ => component == comp | _ => false) = some c := by
    have e1 := va_idx_bare U.vm comp
    have e2 := va_idx_bare u.vm comp
    have eb : u.vm.bare = U.vm.bare := by first | exact hvm.bare_eq | exact hvm.bare_eq.symm
    rw [← eb] at e1
    exact (e1.symm.trans e2).trans h2
  have hkind : k'.kind = .array comp (.array .int) := by rw [he]; exact h4
  have f1 : U.vm.findClass (FieldType.array .int).toString = some comp := by rw [hvm.findClass]; exact h1
  have f2 : U.vm.findClass ("[" ++ (FieldType.array .int).toString) = some c := by rw [hvm.findClass]; exact h5
  unfold ri_G Cond.before Cond.holds
  simp only [Cond.value]
  rw [f1, Option.bind_some]
  refine (congrArg (fun o : Option Nat => (o.bind (fun c => (U.vm.classes[c]?).map fun (k : Class) => match k.kind with | .array _ ty => decide (ty = FieldType.array .int) && decide (U.vm.findClass ("[" ++ (FieldType.array .int).toString) = some c) | _ => false) == some true)) hi).trans ?_
  simp [hk', hkind, f2]
def ri_K (D : va_G) (aC : FieldType → ClassId) (U : State) : Prop := va_K D vwCl (rt_ty.map fun t => (aC t, t)) U ∧ (∀ w ∈ rt_sd, va_Nw w U) ∧ ri_G U
theorem ri_at.kept {D : va_G} {aC : FieldType → ClassId} {z0 : Nat} {s : State} {a : Nat} {e : ri_E} {H H1 : Heap} (h : ri_at D aC z0 s a e H) (hq : H1[a]? = H[a]?) : ri_at D aC z0 s a e H1 := by
  unfold ri_at at h ⊢
  split at h
  · split at h
    · exact ⟨h.1, h.2.kept hq⟩
    · exact ⟨h.1, by rw [hq]; exact h.2⟩
  · exact ⟨h.1, h.2.kept hq⟩
theorem ri_at.lt {D : va_G} {aC : FieldType → ClassId} {z0 : Nat} {s : State} {a : Nat} {e : ri_E} {H : Heap} (h : ri_at D aC z0 s a e H) : a < H.size := by
  unfold ri_at at h
  split at h
  · split at h
    · obtain ⟨scr, h1, -⟩ := h.2
      exact (Array.getElem?_eq_some_iff.mp h1).1
    · exact (Array.getElem?_eq_some_iff.mp h.2).1
  · exact h.2.lt
theorem ri_at.moved {D : va_G} {aC : FieldType → ClassId} {z0 : Nat} {u U : State} {a : Nat} {e : ri_E} {H : Heap} (hvm : u.vm.Alike U.vm) (h : ri_at D aC z0 u a e H) : ri_at D aC z0 U a e H := by
  unfold ri_at at h ⊢
  split at h
  · split at h
    · exact ⟨h.1, va_X.moved hvm h.2⟩
    · exact h
  · exact h
theorem ri_R.moved {D : va_G} {aC : FieldType → ClassId} {z0 : Nat} {u U : State} {σ : ri_S} {H : Heap} (hvm : u.vm.Alike U.vm) (h : ri_R D aC z0 u σ H) : ri_R D aC z0 U σ H := ⟨h.1, h.2.1, fun a e q => (h.2.2 a e q).moved hvm⟩
theorem ri_R.set {D : va_G} {aC : FieldType → ClassId} {z0 : Nat} {s : State} {σ : ri_S} {H H1 : Heap} {a : Nat} {e : ri_E} (h : ri_R D aC z0 s σ H) (ha : ri_at D aC z0 s a e H1) (hz : H1.size = H.size) (oq : ∀ q : Nat, q ≠ a → H1[q]? = H[q]?) : ri_R D aC z0 s (ri_up σ.1 a e, σ.2) H1 := by
  refine ⟨by rw [hz]; exact h.1, by rw [hz]; exact h.2.1, fun q x hx => ?_⟩
  change ri_up σ.1 a e q = some x at hx
  unfold ri_up at hx
  by_cases hq : q = a
  · rw [if_pos hq] at hx
    cases hx
    rw [hq]
    exact ha
  · rw [if_neg hq] at hx
    exact (h.2.2 q x hx).kept (oq q hq)
theorem ri_R.new {D : va_G} {aC : FieldType → ClassId} {z0 : Nat} {s : State} {σ : ri_S} {H H1 : Heap} {e : ri_E} {n : Nat} (h : ri_R D aC z0 s σ H) (ha : ri_at D aC z0 s H.size e H1) (hz : H1.size = H.size + 1) (oq : ∀ q : Nat, q < H.size → H1[q]? = H[q]?) : ri_R D aC z0 s (ri_up σ.1 σ.2.1 e, σ.2.1 + 1, n) H1 := by
  refine ⟨by rw [hz, h.1], by rw [hz]; exact Nat.le_succ_of_le h.2.1, fun q x hx => ?_⟩
  change ri_up σ.1 σ.2.1 e q = some x at hx
  unfold ri_up at hx
  by_cases hq : q = σ.2.1
  · rw [if_pos hq] at hx
    cases hx
    rw [hq, ← h.1]
    exact ha
  · rw [if_neg hq] at hx
    exact (h.2.2 q x hx).kept (oq q (h.2.2 q x hx).lt)
theorem ri_S.new {A : Nat → Prop} {H0 H H1 : Heap} {locs : List Loc} (h : va_S A H0 H locs) (hz : H.size ≤ H1.size) (oq : ∀ q : Nat, q < H.size → H1[q]? = H[q]?) : va_S A H0 H1 locs := ⟨Nat.le_trans h.1 hz, fun x h1 h2 => (oq x (Nat.lt_of_lt_of_le h1 h.1)).trans (h.2.1 x h1 h2), h.2.2⟩
theorem ri_one {D : va_G} {cl : List vw_C} {x : Nat × va_E} {H : Heap} (h : va_at D cl x H) : va_P D cl [x] H := by
  intro k q hq
  have hz : k < 1 := (List.getElem?_eq_some_iff.mp hq).1
  rw [show k = 0 by omega] at hq
  cases hq
  exact h
theorem ri_K.arr {D : va_G} {aC : FieldType → ClassId} {U : State} (h : ri_K D aC U) {t : FieldType} (ht : t ∈ rt_ty) : ArrOfT U (aC t) t ∧ va_RA U (aC t) t := by
  obtain ⟨k, hk⟩ := List.getElem?_of_mem ht
  exact h.1.2 k (aC t, t) (by rw [List.getElem?_map, hk]; rfl)
theorem ri_ai_of {e : ri_E} {n : Nat} {f : Nat → Int32} (h : ri_ai e = some (n, f)) : e = .inl (.int, n, .inl f) ∨ ∃ c, e = .inl (.object c, n, .inl f) := by
  unfold ri_ai at h
  split at h
  · cases h; exact Or.inl rfl
  · cases h; exact Or.inr ⟨_, rfl⟩
  · cases h
section RIH
variable {p : Program} {l : Launch} {e : Env} {R : Room} {s : State} {m : MethodId} {args : Array Value} {below : List Frame} {meth : Method} {c : Code} {H : Heap} {locs : List Loc} {cells slots : Nat} {Q : State → Prop}
variable {cc : ByteArray} {pc : Nat} {ls : Array Slot} {rest : List Value} {D : va_G} {cl : List vw_C} {a : Nat}
/-- a field is written: its own, a nest mate's, a final one in its constructor -/
theorem ri_putW (hexec : p.tables.exec = Jvm.exec) (hb : c.code = cc) {own C : String} {T : u_T} {N ci index : Nat} {Ts : List Cond} {tys : List (ClassId × FieldType)} (hts : ∀ w ∈ Ts, w.before args s = true) (hin : ∀ w ∈ u_ws C T N, w ∈ Ts) (ty0 : Nat → FieldType) (hty : ∀ k, k < N → parseFieldDescriptor (T k).2.2.1 = some (ty0 k)) (hnm : ∀ a, a < N → ∀ b, b < N → a ≠ b → (T a).2.1 ≠ (T b).2.1) (hown : s.vm.findClass own = some m.cls) (hK : va_K D cl tys s) {fs : List Value} (hat : va_at D cl (a, .inr (ci, fs)) H) (hc : cl[ci]? = some (C, T, N)) (k : Nat) (hk : k < N)
    (hl : k < fs.length) {ty : FieldType} {v : Value} (hd : parseFieldDescriptor (T k).2.2.1 = some ty) (hn : narrow ty v = v) (hfit : fits ty v = true)
    (hlink : ((T k).2.2.2 = false ∧ (Cond.fieldLink own index (T k).1 (T k).2.1 (T k).2.2.1).before args s = true) ∨ ((T k).2.2.2 = false ∧ ∃ host, (Cond.fieldLinkNest own index (T k).1 (T k).2.1 (T k).2.2.1 host).before args s = true) ∨ ((T k).2.2.2 = true ∧ (Cond.fieldLink own index (T k).1 (T k).2.1 (T k).2.2.1).before args s = true ∧ meth.name = "<init>" ∧ (T k).1 = own))
    (hdg : decode cc pc = .ok (.putfield index, 3)) (kk : ∀ (H1 : Heap) (j : Nat), va_at D cl (a, .inr (ci, fs.set k v)) H1 → H1.size = H.size → (∀ q : Nat, q ≠ a → H1[q]? = H[q]?) → W p l e R s m args below meth c H1 (locs ++ [⟨a, j⟩]) cells slots Q (F0 m (pc + 3) ls rest)) : W p l e R s m args below meth c H locs cells slots Q (F0 m pc ls (v :: .ref a :: rest)) := by
  have hap := va_apart (own := own) hts hin ty0 hty hnm hK hc
  obtain ⟨r, h1, cell, q1, q2, q3, q4⟩ := hat
  have hr : r = (C, T, N) := Option.some.inj (h1.symm.trans hc)
  subst hr
  obtain ⟨hS, hfc, kC, hkC, hkind⟩ := hK.1 ci _ hc
  obtain ⟨cf, kf, fi, f, hi, hsl⟩ := hS k hk
  have hlay := hts _ (hin _ (u_in_lay hk))
  unfold u_lay at hlay
  have hst := (u_facts hfc hkC (u_lays hts hin hk) hi).1
  have fin : ∀ H' : Heap, H'[a]? = some (cell.setSlot f.slot v) → H'.size = H.size → (∀ q, q ≠ a → H'[q]? = H[q]?) → W p l e R s m args below meth c H' (locs ++ [⟨a, f.slot⟩]) cells slots Q (F0 m (pc + 3) ls rest) := by
    intro H' e1 e2 e3
    refine kk H' _ ⟨_, hc, t_OB.to (V := updV (vp_V fs) k v) ⟨_, e1, q2, q3, ?_⟩ (fun j _ => vp_updV_set hl v j)⟩ e2 e3
    rw [hsl]
    exact t_set q4 hap hk v
  have hslot : f.slot < cell.slots.size := by rw [hsl]; exact k2_hasslot (q4 k hk)
  rcases hlink with ⟨hfin, hlink⟩ | ⟨hfin, host, hlink⟩ | ⟨hfin, hlink, hin2, hdecl⟩
  · rw [if_neg (by rw [hfin]; decide)] at hlay
    have h6 := u_store hfc hkC hkind hlay hi hd hn hfit
    exact W.putK hexec hb (f := f) ⟨hown, hlink, ⟨_, _, _, hi⟩, hst⟩ (by rw [q2]; exact h6) q1 q3 hslot rfl rfl hdg fin
  · rw [if_neg (by rw [hfin]; decide)] at hlay
    have h6 := u_store hfc hkC hkind hlay hi hd hn hfit
    exact va_WputK hexec hb (f := f) hown hlink hi hst (by rw [q2]; exact h6) q1 q3 hslot rfl rfl hdg fin
  · rw [if_pos hfin] at hlay
    have hcf : m.cls = cf := by
      obtain ⟨_, _, c', _, _, _, -, -, hf', -, -, -, hown2, -⟩ := Cond.laysFinal_spec hlay
      have e1 : c' = cf := by have := hi.symm.trans hf'; simp at this; exact this.1.symm
      rw [hdecl] at hown2
      rw [← e1]; exact Option.some.inj (hown.symm.trans hown2)
    have h6 := u_fits hfc hkC hkind (Or.inr hlay) hi hd hn hfit
    exact W.putFinK hexec hb hown hlink hi hst hcf hin2 (by rw [q2]; exact h6) q1 q3 hslot rfl rfl hdg fin
end RIH
