/-! The small machine's locals against the machine's. -/
theorem ri_dl {b : ByteArray} {pc n : Nat} {i : Instr} (h : decode b pc = .ok (i, pc + n - pc)) : decode b pc = .ok (i, n) := by
  rw [Nat.add_sub_cancel_left] at h
  exact h
theorem ri_get_set (L : List (Option Value)) (i j : Nat) (x : Option Value) : ri_get (L.set i x) j = if i = j then (if i < L.length then x else none) else ri_get L j := by
  unfold ri_get
  rw [List.getElem?_set]
  by_cases h : i = j
  · by_cases h2 : i < L.length
    · rw [if_pos h, if_pos h, if_pos h2, if_pos h2]
    · rw [if_pos h, if_pos h, if_neg h2, if_neg h2]
  · rw [if_neg h, if_neg h]
theorem ri_get_lt {L : List (Option Value)} {i : Nat} {v : Value} (h : ri_get L i = some v) : i < L.length := by
  unfold ri_get at h
  split at h
  · rename_i x hx
    exact (List.getElem?_eq_some_iff.mp hx).1
  · cases h
def ri_en (L : List (Option Value)) : List (Nat × Value) := (List.range L.length).filterMap fun i => (ri_get L i).map fun v => (i, v)
theorem ri_en_mem {L : List (Option Value)} {q : Nat × Value} : q ∈ ri_en L ↔ ri_get L q.1 = some q.2 := by
  unfold ri_en
  rw [List.mem_filterMap]
  constructor
  · rintro ⟨i, -, h⟩
    cases hg : ri_get L i with
    | none => rw [hg] at h; cases h
    | some v => rw [hg] at h; cases h; exact hg
  · intro h
    exact ⟨q.1, List.mem_range.mpr (ri_get_lt h), by rw [h]; rfl⟩
def ri_H (ls : Array Slot) (L : List (Option Value)) : Prop := lv_has ls L.length (ri_en L)
theorem ri_H.at {ls : Array Slot} {L : List (Option Value)} {i : Nat} {v : Value} (h : ri_H ls L) (hv : ri_get L i = some v) : ls[i]? = some (.val v) := h.2.2 (i, v) (ri_en_mem.mpr hv)
theorem ri_H.of {ls : Array Slot} {L : List (Option Value)} (h1 : ls.size = L.length) (h2 : lv_wf ls) (h3 : ∀ i v, ri_get L i = some v → ls[i]? = some (.val v)) : ri_H ls L := ⟨h1, h2, fun q hq => h3 q.1 q.2 (ri_en_mem.mp hq)⟩
theorem ri_put_len (L : List (Option Value)) (i : Nat) (v : Value) : (ri_put L i v).length = L.length := by
  unfold ri_put
  cases i with
  | zero => cases hb : (v.category == 2) <;> simp
  | succ j => cases hb : (v.category == 2) <;> cases hc : ri_two L j <;> simp [hc]
theorem ri_two_of {L : List (Option Value)} {j : Nat} {w : Value} (h : ri_get L j = some w) : ri_two L j = (w.category == 2) := by
  unfold ri_two
  rw [h]
theorem ri_put1_get {L : List (Option Value)} {i j : Nat} {v w : Value} (hc : v.category = 1) (h : ri_get (ri_put L i v) j = some w) : (j = i ∧ w = v) ∨ (j ≠ i ∧ ri_get L j = some w ∧ ¬ (j + 1 = i ∧ w.category = 2)) := by
  have hb : (v.category == 2) = false := by rw [hc]; rfl
  unfold ri_put at h
  cases i with
  | zero =>
    simp only [hb, cond_false] at h
    rw [ri_get_set] at h
    by_cases e : 0 = j
    · rw [if_pos e] at h
      split at h
      · cases h; exact Or.inl ⟨e.symm, rfl⟩
      · cases h
    · rw [if_neg e] at h
      exact Or.inr ⟨fun q => e q.symm, h, fun q => absurd q.1 (Nat.succ_ne_zero j)⟩
  | succ i =>
    simp only [hb, cond_false] at h
    rw [ri_get_set] at h
    by_cases e : i + 1 = j
    · rw [if_pos e] at h
      split at h
      · cases h; exact Or.inl ⟨e.symm, rfl⟩
      · cases h
    · rw [if_neg e] at h
      refine Or.inr ⟨fun q => e q.symm, ?_⟩
      cases ht : ri_two L i with
      | true =>
        rw [ht, cond_true, ri_get_set] at h
        by_cases e2 : i = j
        · rw [if_pos e2] at h
          split at h <;> cases h
        · rw [if_neg e2] at h
          exact ⟨h, fun q => e2 (Nat.succ.inj q.1).symm⟩
      | false =>
        rw [ht, cond_false] at h
        refine ⟨h, fun q => ?_⟩
        have e3 : j = i := Nat.succ.inj q.1
        rw [e3] at h
        rw [ri_two_of h, q.2] at ht
        cases ht
theorem ri_put2_get {L : List (Option Value)} {i j : Nat} {v w : Value} (hc : v.category = 2) (h : ri_get (ri_put L i v) j = some w) : (j = i ∧ w = v) ∨ (j ≠ i ∧ j ≠ i + 1 ∧ ri_get L j = some w ∧ ¬ (j + 1 = i ∧ w.category = 2)) := by
  have hb : (v.category == 2) = true := by rw [hc]; rfl
  unfold ri_put at h
  cases i with
  | zero =>
    simp only [hb, cond_true] at h
    rw [ri_get_set] at h
    by_cases e1 : 1 = j
    · rw [if_pos e1] at h
      split at h <;> cases h
    · rw [if_neg e1, ri_get_set] at h
      by_cases e : 0 = j
      · rw [if_pos e] at h
        split at h
        · cases h; exact Or.inl ⟨e.symm, rfl⟩
        · cases h
      · rw [if_neg e] at h
        exact Or.inr ⟨fun q => e q.symm, fun q => e1 q.symm, h, fun q => absurd q.1 (Nat.succ_ne_zero j)⟩
  | succ i =>
    simp only [hb, cond_true] at h
    rw [ri_get_set] at h
    by_cases e1 : i + 2 = j
    · rw [if_pos e1] at h
      split at h <;> cases h
    · rw [if_neg e1, ri_get_set] at h
      by_cases e : i + 1 = j
      · rw [if_pos e] at h
        split at h
        · cases h; exact Or.inl ⟨e.symm, rfl⟩
        · cases h
      · rw [if_neg e] at h
        refine Or.inr ⟨fun q => e q.symm, fun q => e1 q.symm, ?_⟩
        cases ht : ri_two L i with
        | true =>
          rw [ht, cond_true, ri_get_set] at h
          by_cases e2 : i = j
          · rw [if_pos e2] at h
            split at h <;> cases h
          · rw [if_neg e2] at h
            exact ⟨h, fun q => e2 (Nat.succ.inj q.1).symm⟩
        | false =>
          rw [ht, cond_false] at h
          refine ⟨h, fun q => ?_⟩
          have e3 : j = i := Nat.succ.inj q.1
          rw [e3] at h
          rw [ri_two_of h, q.2] at ht
          cases ht
theorem ri_H.put1 {ls : Array Slot} {L : List (Option Value)} {i : Nat} {v : Value} (hc : v.category = 1) (h : lv_has ls L.length ((i, v) :: (ri_en L).filter (fun q => !(q.1 == i) && !(q.1 + 1 == i && q.2.category == 2)))) : ri_H ls (ri_put L i v) := by
  refine ri_H.of (by rw [ri_put_len]; exact h.1) h.2.1 fun j w hw => ?_
  rcases ri_put1_get hc hw with ⟨rfl, rfl⟩ | ⟨h1, h2, h3⟩
  · exact h.2.2 _ List.mem_cons_self
  · refine h.2.2 (j, w) (List.mem_cons_of_mem _ (List.mem_filter.mpr ⟨ri_en_mem.mpr h2, ?_⟩))
    simp only [Bool.and_eq_true, Bool.not_eq_true', beq_eq_false_iff_ne, Bool.and_eq_false_imp, beq_iff_eq]
    exact ⟨h1, fun q1 q2 => h3 ⟨q1, q2⟩⟩
theorem ri_H.put2 {ls : Array Slot} {L : List (Option Value)} {i : Nat} {v : Value} (hc : v.category = 2) (h : lv_has ls L.length ((i, v) :: (ri_en L).filter (fun q => !(q.1 == i) && (!(q.1 == i + 1) && !(q.1 + 1 == i && q.2.category == 2))))) : ri_H ls (ri_put L i v) := by
  refine ri_H.of (by rw [ri_put_len]; exact h.1) h.2.1 fun j w hw => ?_
  rcases ri_put2_get hc hw with ⟨rfl, rfl⟩ | ⟨h1, h4, h2, h3⟩
  · exact h.2.2 _ List.mem_cons_self
  · refine h.2.2 (j, w) (List.mem_cons_of_mem _ (List.mem_filter.mpr ⟨ri_en_mem.mpr h2, ?_⟩))
    simp only [Bool.and_eq_true, Bool.not_eq_true', beq_eq_false_iff_ne, Bool.and_eq_false_imp, beq_iff_eq]
    exact ⟨h1, h4, fun q1 q2 => h3 ⟨q1, q2⟩⟩
/-- a method's entry -/
theorem ri_ent_len : ∀ vs : List Value, (ri_ent vs).length = (lg_sl vs).length
  | [] => rfl
  | v :: r => by
    have ih := ri_ent_len r
    unfold lg_sl at ih ⊢
    rw [List.flatMap_cons, List.length_append, ← ih]
    rw [show ri_ent (v :: r) = bif v.category == 2 then some v :: none :: ri_ent r else some v :: ri_ent r from rfl]
    rcases lv_cat v with h | h
    · rw [show (v.category == 2) = false by rw [h]; rfl, cond_false, if_neg (by rw [h]; decide)]
      simp only [List.length_cons, List.length_nil]; omega
    · rw [show (v.category == 2) = true by rw [h]; rfl, cond_true, if_pos h]
      simp only [List.length_cons, List.length_nil]; omega
theorem ri_ent_get : ∀ (vs : List Value) (n i j : Nat) (w : Value), ri_get (ri_ent vs ++ List.replicate n none) j = some w → (i + j, w) ∈ lv_args i vs
  | [], n, i, j, w, h => by
    exfalso
    unfold ri_get ri_ent at h
    rw [List.nil_append] at h
    split at h
    · rename_i x hx
      have := List.mem_of_getElem? hx
      rw [List.mem_replicate] at this
      rw [this.2] at h
      cases h
    · cases h
  | v :: r, n, i, j, w, h => by
    unfold ri_ent at h
    unfold lv_args
    rcases lv_cat v with hc | hc
    · rw [show (v.category == 2) = false by rw [hc]; rfl, cond_false] at h
      rw [if_neg (by rw [hc]; decide)]
      cases j with
      | zero => cases h; exact List.mem_cons_self
      | succ j =>
        have := ri_ent_get r n (i + 1) j w h
        rw [show i + (j + 1) = i + 1 + j by omega]
        exact List.mem_cons_of_mem _ this
    · rw [show (v.category == 2) = true by rw [hc]; rfl, cond_true] at h
      rw [if_pos hc]
      match j, h with
      | 0, h => cases h; exact List.mem_cons_self
      | 1, h => cases h
      | j + 2, h =>
        have := ri_ent_get r n (i + 2) j w h
        rw [show i + (j + 2) = i + 2 + j by omega]
        exact List.mem_cons_of_mem _ this
theorem ri_entry (vs : List Value) {n : Nat} (h : (ri_ent vs).length ≤ n) : ri_H ((lg_sl vs ++ List.replicate (n - (lg_sl vs).length) Slot.unset).toArray) (ri_loc n vs) := by
  have h0 := lv_entry vs (n := n) (by rw [← ri_ent_len]; exact h)
  have hn : (ri_loc n vs).length = n := by
    unfold ri_loc
    rw [List.length_append, List.length_replicate]
    omega
  refine ri_H.of (by rw [hn]; exact h0.1) h0.2.1 fun i v hv => ?_
  have := ri_ent_get vs _ 0 i v hv
  rw [Nat.zero_add] at this
  exact h0.2.2 _ this
